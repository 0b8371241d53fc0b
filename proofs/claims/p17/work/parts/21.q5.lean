/-! the sum, point by point -/
theorem wide_cg {P nb A O : Nat} {w w2 : Nat → Int32} (h : ∀ p, p < P → w p = w2 p) : wideP P nb w A O ↔ wideP P nb w2 A O := by
  have c : ∀ A O, clean P w A O ↔ clean P w2 A O := fun A O => ⟨fun q x hx h0 => q x hx (by rw [h x hx]; exact h0), fun q x hx h0 => q x hx (by rw [← h x hx]; exact h0)⟩
  have o : hasOneP P w A O ↔ hasOneP P w2 A O := ⟨fun ⟨x, hx, h1, h2⟩ => ⟨x, hx, by rw [← h x hx]; exact h1, h2⟩, fun ⟨x, hx, h1, h2⟩ => ⟨x, hx, by rw [h x hx]; exact h1, h2⟩⟩
  unfold wideP
  rw [o, c]
  exact ⟨fun ⟨q1, q2, q3, q4⟩ => ⟨q1, q2, q3, fun b hb ht hc => q4 b hb ht ((c _ _).mpr hc)⟩, fun ⟨q1, q2, q3, q4⟩ => ⟨q1, q2, q3, fun b hb ht hc => q4 b hb ht ((c _ _).mp hc)⟩⟩
theorem PW_cg {g : Nat} {w w2 : Nat → Int32} (h : ∀ p, p < 4 * 2 ^ g → w p = w2 p) : PW g w = PW g w2 := fo_cg (fun x T _ => by
  unfold pwS
  rw [show wideP (4 * 2 ^ g) (g + 2) w (x / 128) (x % 128) = wideP (4 * 2 ^ g) (g + 2) w2 (x / 128) (x % 128) from propext (wide_cg h)])
noncomputable def spS (W : PL) (w : Nat → Int32) (p : Nat) (T : PL) : PL := if w p = 1 then cvS W.1 W.2 p 0 T else T
noncomputable def SPk (W : PL) (w : Nat → Int32) (p : Nat) : PL := fo (spS W w) p (0, fun _ => 0)
noncomputable def flS (W : PL) (w : Nat → Int32) (p b : Nat) (T : PL) : PL := if (¬ p ||| 2 ^ b = p) ∧ w p = 1 ∧ w (p ||| 2 ^ b) = 1 then cvS W.1 W.2 p (2 ^ b) T else T
noncomputable def flP (W : PL) (w : Nat → Int32) (nb p : Nat) (T : PL) : PL := fo (flS W w p) nb T
noncomputable def SFk (g : Nat) (W : PL) (w : Nat → Int32) (p : Nat) : PL := fo (flP W w (g + 2)) p (SPk W w (4 * 2 ^ g))
noncomputable def SP (g : Nat) (w : Nat → Int32) : PL := SPk (PW g w) w (4 * 2 ^ g)
noncomputable def SF (g : Nat) (w : Nat → Int32) : PL := SFk g (PW g w) w (4 * 2 ^ g)
section SUMS
variable {g : Nat} {w : Nat → Int32} {W : PL}
theorem spS_t {p : Nat} {T : PL} (h : w p = 1) : spS W w p T = cvS W.1 W.2 p 0 T := if_pos h
theorem spS_f {p : Nat} {T : PL} (h : ¬ w p = 1) : spS W w p T = T := if_neg h
theorem flS_t {p b : Nat} {T : PL} (h1 : ¬ p ||| 2 ^ b = p) (h2 : w p = 1) (h3 : w (p ||| 2 ^ b) = 1) : flS W w p b T = cvS W.1 W.2 p (2 ^ b) T := if_pos ⟨h1, h2, h3⟩
theorem flS_f {p b : Nat} {T : PL} (h : ¬ ((¬ p ||| 2 ^ b = p) ∧ w p = 1 ∧ w (p ||| 2 ^ b) = 1)) : flS W w p b T = T := if_neg h
theorem SP_le (p : Nat) : (SPk W w p).1 ≤ p := by
  have := fo_le (f := spS W w) (φ := fun T => T.1) (d := 1) (fun i T => by
    show (spS W w i T).1 ≤ T.1 + 1
    by_cases h : w i = 1
    · rw [spS_t h]; exact (cvS_le _ _ _ _ _).2
    · rw [spS_f h]; omega) p (0, fun _ => 0)
  have e : (SPk W w p).1 ≤ 0 + p * 1 := this
  omega
theorem fl_le (p : Nat) (T : PL) (b : Nat) : T.1 ≤ (fo (flS W w p) b T).1 ∧ (fo (flS W w p) b T).1 ≤ T.1 + cz p b := by
  induction b with
  | zero => exact ⟨Nat.le_refl _, Nat.le_refl _⟩
  | succ b ih =>
    rw [fo_s, cz]
    by_cases h : (¬ p ||| 2 ^ b = p) ∧ w p = 1 ∧ w (p ||| 2 ^ b) = 1
    · rw [flS_t h.1 h.2.1 h.2.2, if_neg h.1]
      have := cvS_le W.1 p (2 ^ b) W.2 (fo (flS W w p) b T)
      omega
    · rw [flS_f h]
      omega
theorem SF_le (p : Nat) : (SPk W w (4 * 2 ^ g)).1 ≤ (SFk g W w p).1 ∧ (SFk g W w p).1 ≤ 4 * 2 ^ g + czs (g + 2) p := by
  induction p with
  | zero =>
    have := SP_le (W := W) (w := w) (4 * 2 ^ g)
    exact ⟨Nat.le_refl _, this⟩
  | succ p ih =>
    have e : SFk g W w (p + 1) = flP W w (g + 2) p (SFk g W w p) := rfl
    rw [e, czs]
    have := fl_le (W := W) (w := w) p (SFk g W w p) (g + 2)
    have e2 : flP W w (g + 2) p (SFk g W w p) = fo (flS W w p) (g + 2) (SFk g W w p) := rfl
    rw [e2]
    omega
theorem PWk_has {x z : Nat} (hz : wideP (4 * 2 ^ g) (g + 2) w (z / 128) (z % 128)) (h : z < x) : ∃ i, i < (PWk g w x).1 ∧ (PWk g w x).2 i = z := by
  induction x with
  | zero => omega
  | succ x ih =>
    by_cases e : z = x
    · rw [e] at hz ⊢
      rw [PWk_t hz]
      exact ⟨(PWk g w x).1, Nat.lt_succ_self _, if_pos rfl⟩
    · obtain ⟨i, h1, h2⟩ := ih (by omega)
      by_cases q : wideP (4 * 2 ^ g) (g + 2) w (x / 128) (x % 128)
      · rw [PWk_t q]
        refine ⟨i, Nat.lt_succ_of_lt h1, ?_⟩
        show (if i = (PWk g w x).1 then x else (PWk g w x).2 i) = z
        rw [if_neg (by omega)]
        exact h2
      · rw [PWk_f q]; exact ⟨i, h1, h2⟩
theorem PW_ls (hg : g ≤ 5) : lsQ (PW g w) := by
  have hq := p4_le hg
  refine ⟨PWk_672 hg (Nat.le_refl _), fun i hi => ?_⟩
  have := ((PWk_all (g := g) (w := w) (128 * (4 * 2 ^ g))).1 i hi).2
  have e : (PW g w).2 i < 128 * (4 * 2 ^ g) := this
  omega
theorem PW_hb (hg : g ≤ 5) {A p bt : Nat} (hA : A < 4 * 2 ^ g) (hw : wideP (4 * 2 ^ g) (g + 2) w A (p &&& A)) (h0 : A &&& bt = 0) : ∃ i, i < (PW g w).1 ∧ hbP ((PW g w).2 i) p bt := by
  have hq := p4_le hg
  have hl : p &&& A ≤ A := Nat.and_le_right
  have hd := key_d (a := A) (o := p &&& A) (by omega)
  obtain ⟨i, h1, h2⟩ := PWk_has (g := g) (w := w) (x := 128 * (4 * 2 ^ g)) (z := 128 * A + (p &&& A)) (by rw [hd.1, hd.2]; exact hw) (by omega)
  have h2 : (PW g w).2 i = 128 * A + (p &&& A) := h2
  exact ⟨i, h1, by rw [h2]; exact ⟨by rw [hd.1, hd.2], by rw [hd.1]; exact h0⟩⟩
theorem hex1 (hg : g ≤ 5) {p : Nat} (hp : p < 4 * 2 ^ g) (hw : w p = 1) : ∃ i, i < (PW g w).1 ∧ hbP ((PW g w).2 i) p 0 := by
  obtain ⟨A, h1, h2⟩ := ex_one hg hp hw
  exact PW_hb hg h1 h2 (Nat.and_zero A)
theorem tb_ne : ∀ p, p < 128 → ∀ b, b < 7 → (p.testBit b = false ↔ ¬ p ||| 2 ^ b = p) := by decide +kernel
theorem hex2 (hg : g ≤ 5) {p b : Nat} (hp : p < 4 * 2 ^ g) (hb : b < g + 2) (hw : w p = 1) (hw2 : w (p ||| 2 ^ b) = 1) (hn : ¬ p ||| 2 ^ b = p) : ∃ i, i < (PW g w).1 ∧ hbP ((PW g w).2 i) p (2 ^ b) := by
  have hq := p4_le hg
  obtain ⟨A, h1, h2, h3⟩ := ex_two hg hp hb hw hw2 hn
  have hpb := (tb_ne p (by omega) b (by omega)).mpr hn
  have h0 : p &&& 2 ^ b = 0 := (and_p2 p b).2 hpb
  exact PW_hb hg h1 h2 ((hb_iff (a := A) (o := p &&& A) h0).mp ⟨rfl, h3⟩).2
theorem g_points {post : Int32 → Prop} (hg : g ≤ 5) (H : post (nI (4 * 2 ^ g))) : wp_X0_points post (nI (2 + g)) := by
  have e3 : 2 ^ (2 + g) = 4 * 2 ^ g := by rw [Nat.pow_add]
  refine q_apoints (by omega) ?_
  rw [e3]
  exact H
theorem g_collectSum {post : (Nat → Int32) → Int32 → Int32 → Prop} {ac wA wO sa : Nat → Int32} {sz fl x : Int32} (hg : g ≤ 5) (hw : ∀ p, p < 128 → wtV x (ac p) = w p) (hR : rowK (PW g w) wA wO) (H : ∀ sa', smK (PW g w).1 (SF g w) sa' → post sa' (nI (SF g w).1) (nI ((SF g w).1 - (SP g w).1))) : wp_X4_collectSum post ac (nI (2 + g)) wA wO sa (nI (PW g w).1) sz fl x := by
  have hq := p4_le hg
  have hz := czs_all g (by omega)
  have hW := PW_ls (w := w) hg
  have k3 : ∀ (KE : (Nat → Int32) → Int32 → Prop) (p : Nat) (T : PL), p < 4 * 2 ^ g → T.1 + cz p (g + 2) ≤ 576 → (∀ s, smK (PW g w).1 (flP (PW g w) w (g + 2) p T) s → KE s (nI (flP (PW g w) w (g + 2) p T).1)) → ∀ n b s, b ≤ 2 + g → 2 + g - b < n → smK (PW g w).1 (fo (flS (PW g w) w p) b T) s → w_X4_collectSum_57 KE ac (nI (2 + g)) wA wO (nI (PW g w).1) x (nI p) n (nI b) s (nI (fo (flS (PW g w) w p) b T).1) := by
    intro KE p T hp hT hK n
    induction n with
    | zero => intro b s h1 h2; omega
    | succ n ih =>
      intro b s h1 h2 h3
      refine pk_le (2 + g) b (fun hle => ?_) (fun hlt x6 e6 => ?_)
      · have e : flP (PW g w) w (g + 2) p T = fo (flS (PW g w) w p) b T := by
          rw [show b = g + 2 by omega]
          rfl
        rw [e] at hK
        exact hK s h3
      · have hr := ih (b + 1)
        rw [fo_s] at hr
        have hb1 := fl_le (W := PW g w) (w := w) p T b
        have hb2 := cz_mono p (show b ≤ g + 2 by omega)
        have hb3 : p ||| 2 ^ b < 4 * 2 ^ g := bt_c5 g (by omega) p hp b (by omega)
        revert hr hb1 h3
        generalize fo (flS (PW g w) w p) b T = S
        intro h3 hr hb1
        have hskip : ¬ ((¬ p ||| 2 ^ b = p) ∧ w p = 1 ∧ w (p ||| 2 ^ b) = 1) → ∀ z, z = nI b + 1 → w_X4_collectSum_57 KE ac (nI (2 + g)) wA wO (nI (PW g w).1) x (nI p) n z s (nI S.1) := fun q z hz => by
          have hr := hr s (by omega) (by omega)
          rw [flS_f q] at hr
          rw [hz, nI_p1]
          exact hr h3
        rw [e6, bt_and0 p (by omega) b (by omega), tb_ne p (by omega) b (by omega)]
        refine ⟨fun q1 => ⟨fun q => absurd q (by decide), fun _ => ?_⟩, fun q1 => ⟨fun _ => hskip (fun r => q1 r.1), fun q => absurd rfl q⟩⟩
        refine g_at (by omega) ?_
        rw [hw p (by omega)]
        refine ⟨fun w1 => ?_, fun w1 => hskip (fun r => w1 r.2.1)⟩
        rw [bt_or p (by omega) b (by omega)]
        refine g_at (by omega) ?_
        rw [hw _ (by omega)]
        refine ⟨fun w2 => ?_, fun w2 => hskip (fun r => w2 r.2.2)⟩
        rw [sh1 b (by omega)]
        have hcz : cz p (b + 1) = cz p b + 1 := by rw [cz, if_neg q1]
        have hcz2 := cz_mono p (show b + 1 ≤ g + 2 by omega)
        have h2b : 2 ^ b < 128 := Nat.pow_lt_pow_right (n := 7) (by omega) (by omega)
        refine g_cover hW hR (by omega) h3 (by omega) h2b (hex2 hg hp (by omega) w1 w2 q1) (fun s2 hs2 z hz => ?_)
        have hr := hr s2 (by omega) (by omega)
        rw [flS_t q1 w1 w2] at hr
        rw [hz, nI_p1]
        exact hr hs2
  have k2 : ∀ n i s, i ≤ 4 * 2 ^ g → 4 * 2 ^ g - i < n → smK (PW g w).1 (SFk g (PW g w) w i) s → w_X4_collectSum_45 (fun (ysum_26 : Nat → Int32) (ysumSize_26 : Int32) => (∀ f_27 : Int32, f_27 = (ysumSize_26 - nI (SP g w).1) → post ysum_26 ysumSize_26 f_27)) ac (nI (2 + g)) wA wO (nI (PW g w).1) x n (nI i) s (nI (SFk g (PW g w) w i).1) := by
    intro n
    induction n with
    | zero => intro i s h1 h2; omega
    | succ n ih =>
      intro i s h1 h2 h3
      rw [w_X4_collectSum_45]
      have hb := SF_le (g := g) (W := PW g w) (w := w) i
      have hcm := czs_mono (g + 2) h1
      refine g_points hg (pk_le (4 * 2 ^ g) i (fun hle f hf => ?_) (fun hlt => ⟨8, ?_⟩))
      · rw [show i = 4 * 2 ^ g by omega] at h3 hf hb ⊢
        have e1 : (SP g w).1 ≤ (SFk g (PW g w) w (4 * 2 ^ g)).1 := hb.1
        rw [hf, pk_sub e1]
        exact H s h3
      · have hcm2 := czs_mono (g + 2) (show i + 1 ≤ 4 * 2 ^ g by omega)
        rw [czs] at hcm2
        refine k3 _ i (SFk g (PW g w) w i) hlt (by omega) (fun s2 hs2 z hz => ?_) 8 0 s (by omega) (by omega) h3
        rw [hz, nI_p1]
        exact ih (i + 1) s2 (by omega) (by omega) hs2
  have k1 : ∀ n i s, i ≤ 4 * 2 ^ g → 4 * 2 ^ g - i < n → smK (PW g w).1 (SPk (PW g w) w i) s → w_X4_collectSum_7 (fun (ysum_8 : Nat → Int32) (ysumSize_8 : Int32) => (∃ fu : Nat, w_X4_collectSum_45 (fun (ysum_26 : Nat → Int32) (ysumSize_26 : Int32) => (∀ f_27 : Int32, f_27 = (ysumSize_26 - ysumSize_8) → post ysum_26 ysumSize_26 f_27)) ac (nI (2 + g)) wA wO (nI (PW g w).1) x fu (0 : Int32) ysum_8 ysumSize_8)) ac (nI (2 + g)) wA wO (nI (PW g w).1) x n (nI i) s (nI (SPk (PW g w) w i).1) := by
    intro n
    induction n with
    | zero => intro i s h1 h2; omega
    | succ n ih =>
      intro i s h1 h2 h3
      rw [w_X4_collectSum_7]
      have hb := SP_le (W := PW g w) (w := w) i
      have hr := ih (i + 1)
      have es : SPk (PW g w) w (i + 1) = spS (PW g w) w i (SPk (PW g w) w i) := rfl
      rw [es] at hr
      refine g_points hg (pk_le (4 * 2 ^ g) i (fun hle => ?_) (fun hlt => g_at (by omega) ?_))
      · rw [show i = 4 * 2 ^ g by omega] at h3 ⊢
        exact ⟨129, k2 129 0 s (Nat.zero_le _) (by omega) h3⟩
      · rw [hw i (by omega)]
        refine ⟨fun w1 => ?_, fun w1 z hz => ?_⟩
        · refine g_cover (bt := 0) hW hR (by omega) h3 (by omega) (by omega) (hex1 hg hlt w1) (fun s2 hs2 z hz => ?_)
          have hr := hr s2 (by omega) (by omega)
          rw [spS_t w1] at hr
          rw [hz, nI_p1]
          exact hr hs2
        · have hr := hr s (by omega) (by omega)
          rw [spS_f w1] at hr
          rw [hz, nI_p1]
          exact hr h3
  exact ⟨129, k1 129 0 sa (Nat.zero_le _) (by omega) (fun i hi => absurd hi (Nat.not_lt_zero i))⟩
/-! the reference: the same -/
theorem cv_push {T : PL} {p bt : Nat} {sa : Nat → Int32} (hS : smK W.1 T sa) (hno : ¬ ∃ i, i < T.1 ∧ hbP (W.2 (T.2 i)) p bt) (hex : ∃ i, i < W.1 ∧ hbP (W.2 i) p bt) : smK W.1 (cvS W.1 W.2 p bt T) (upd sa T.1 (bI1 (BST W.1 W.2 p bt))) ∧ (cvS W.1 W.2 p bt T).1 = T.1 + 1 := by
  have hne := BST_ex hex
  have hbl := (BST_all W.2 p bt W.1).1
  rw [cvS_f hno]
  obtain ⟨b, eb⟩ : ∃ b, BST W.1 W.2 p bt = b + 1 := ⟨BST W.1 W.2 p bt - 1, by omega⟩
  rw [eb, bI1_s, Nat.add_sub_cancel]
  exact ⟨smK_ps hS (by omega), rfl⟩
theorem r_layFlickers {post : Int32 → Int32 → (Nat → Int32) → Prop} {wA wO sa : Nat → Int32} {T : PL} {p S0 : Nat} (hg : g ≤ 5) (hR : rowK (PW g w) wA wO) (hp : p < 4 * 2 ^ g) (hS : smK (PW g w).1 T sa) (h0 : S0 ≤ T.1) (hm : T.1 + cz p (g + 2) ≤ 576) (H : ∀ sa', smK (PW g w).1 (flP (PW g w) w (g + 2) p T) sa' → post (nI (flP (PW g w) w (g + 2) p T).1) (nI ((flP (PW g w) w (g + 2) p T).1 - S0)) sa') : wp_X10_layFlickers post (nI g) w (nI (PW g w).1) wA wO (nI T.1) (nI (T.1 - S0)) sa (nI p) := by
  have hq := p4_le hg
  have hW := PW_ls (w := w) hg
  have e2 : nI g + (2 : Int32) = nI (g + 2) := by rw [show (2 : Int32) = nI 2 from rfl, nI_add]
  have key : ∀ n b s, b ≤ g + 2 → g + 2 - b < n → smK (PW g w).1 (fo (flS (PW g w) w p) b T) s → w_X10_layFlickers_2 (fun a b c => post a b c) (nI g) w (nI (PW g w).1) wA wO (nI p) n (nI b) (nI (fo (flS (PW g w) w p) b T).1) (nI ((fo (flS (PW g w) w p) b T).1 - S0)) s := by
    intro n
    induction n with
    | zero => intro b s h1 h2; omega
    | succ n ih =>
      intro b s h1 h2 h3
      refine pk_le (g + 2) b (fun hle => ?_) (fun hlt z hz => ?_) e2 rfl
      · have e : flP (PW g w) w (g + 2) p T = fo (flS (PW g w) w p) b T := by
          rw [show b = g + 2 by omega]
          rfl
        rw [e] at H
        exact H s h3
      · have hr := ih (b + 1)
        rw [fo_s] at hr
        have hb1 := fl_le (W := PW g w) (w := w) p T b
        have hb2 := cz_mono p (show b ≤ g + 2 by omega)
        have hb3 : p ||| 2 ^ b < 4 * 2 ^ g := bt_c5 g (by omega) p hp b (by omega)
        revert hr hb1 h3
        generalize fo (flS (PW g w) w p) b T = S
        intro h3 hr hb1
        have hskip : ¬ ((¬ p ||| 2 ^ b = p) ∧ w p = 1 ∧ w (p ||| 2 ^ b) = 1) → ∀ y, y = nI b + 1 → w_X10_layFlickers_2 (fun a b c => post a b c) (nI g) w (nI (PW g w).1) wA wO (nI p) n y (nI S.1) (nI (S.1 - S0)) s := fun q y hy => by
          have hr := hr s (by omega) (by omega)
          rw [flS_f q] at hr
          rw [hy, nI_p1]
          exact hr h3
        rw [bt_or p (by omega) b (by omega)] at hz
        rw [hz]
        refine pk_eq (p ||| 2 ^ b) p (fun q1 => hskip (fun r => r.1 q1)) (fun q1 => ⟨pk_in p 128 (by omega), ?_⟩)
        rw [nI_clamp (show p < 2 ^ 31 by omega), nI_clamp (show p ||| 2 ^ b < 2 ^ 31 by omega)]
        refine ⟨fun w1 => ⟨pk_in (p ||| 2 ^ b) 128 (by omega), fun w2 => ?_, fun w2 => hskip (fun r => w2 r.2.2)⟩, fun w1 => hskip (fun r => w1 r.2.1)⟩
        have hcz : cz p (b + 1) = cz p b + 1 := by rw [cz, if_neg q1]
        have hcz2 := cz_mono p (show b + 1 ≤ g + 2 by omega)
        have hpb : p &&& 2 ^ b = 0 := (and_p2 p b).2 ((tb_ne p (by omega) b (by omega)).mpr q1)
        rw [flS_t q1 w1 w2] at hr
        refine r_isSummed hW hR (by omega) h3 (by omega) (by omega) hpb (fun he => ⟨fun q => absurd q (by decide), fun _ y hy => ?_⟩) (fun hno => ⟨fun _ => r_addSum hW hR (by omega) (by omega) (by omega) hpb (fun f hf y hy => ?_), fun q => absurd rfl q⟩)
        · have hr := hr s (by omega) (by omega)
          rw [cvS_t he] at hr
          rw [hy, nI_p1]
          exact hr h3
        · obtain ⟨c1, c2⟩ := cv_push h3 hno (hex2 hg hp (by omega) w1 w2 q1)
          have hr := hr _ (by omega) (by omega) c1
          rw [c2, show S.1 + 1 - S0 = S.1 - S0 + 1 by omega] at hr
          rw [hy, hf, nI_p1, nI_p1]
          exact hr
  exact ⟨10, key 10 0 sa (by omega) (by omega) hS⟩
theorem r_isSummed0 {post : Int32 → Prop} {wA wO sa : Nat → Int32} {T : PL} {p : Nat} (hW : lsQ W) (hR : rowK W wA wO) (hT : T.1 ≤ 600) (hS : smK W.1 T sa) (hp : p < 128) (H1 : (∃ i, i < T.1 ∧ hbP (W.2 (T.2 i)) p 0) → post 1) (H0 : ¬ (∃ i, i < T.1 ∧ hbP (W.2 (T.2 i)) p 0) → post 0) : wp_X10_isSummed post wA wO (nI T.1) sa (nI p) (nI p) := by
  have := r_isSummed (bt := 0) hW hR hT hS hp (by rw [Nat.or_zero]; exact hp) (Nat.and_zero p) H1 H0
  rw [Nat.or_zero] at this
  exact this
theorem r_addSum0 {post : Int32 → (Nat → Int32) → Prop} {wA wO sa : Nat → Int32} {T : PL} {p : Nat} (hW : lsQ W) (hR : rowK W wA wO) (hT : T.1 < 600) (hp : p < 128) (H : post (nI (T.1 + 1)) (upd sa T.1 (bI1 (BST W.1 W.2 p 0)))) : wp_X10_addSum post (nI W.1) wA wO (nI T.1) sa (nI p) (nI p) := by
  have := r_addSum (bt := 0) hW hR hT hp (by rw [Nat.or_zero]; exact hp) (Nat.and_zero p) H
  rw [Nat.or_zero] at this
  exact this
theorem r_sums {post : Int32 → Int32 → (Nat → Int32) → Prop} {wA wO sa : Nat → Int32} (hg : g ≤ 5) (hR : rowK (PW g w) wA wO) (H : ∀ sa', smK (PW g w).1 (SF g w) sa' → post (nI (SF g w).1) (nI ((SF g w).1 - (SP g w).1)) sa') : ∃ fu : Nat, w_X10_laySignal_58 (fun (ysum_19 : Int32) (ysumAt_19 : Nat → Int32) => (∃ fu : Nat, w_X10_laySignal_99 (fun a b c => post a b c) (nI g) w (nI (PW g w).1) wA wO fu (0 : Int32) ysum_19 (0 : Int32) ysumAt_19)) (nI g) w (nI (PW g w).1) wA wO fu (0 : Int32) (0 : Int32) sa := by
  have hq := p4_le hg
  have hz := czs_all g (by omega)
  have hW := PW_ls (w := w) hg
  have k2 : ∀ n i s, i ≤ 4 * 2 ^ g → 4 * 2 ^ g - i < n → smK (PW g w).1 (SFk g (PW g w) w i) s → w_X10_laySignal_99 (fun a b c => post a b c) (nI g) w (nI (PW g w).1) wA wO n (nI i) (nI (SFk g (PW g w) w i).1) (nI ((SFk g (PW g w) w i).1 - (SP g w).1)) s := by
    intro n
    induction n with
    | zero => intro i s h1 h2; omega
    | succ n ih =>
      intro i s h1 h2 h3
      rw [w_X10_laySignal_99]
      have hb := SF_le (g := g) (W := PW g w) (w := w) i
      have hcm := czs_mono (g + 2) h1
      refine s_points hg (pk_le (4 * 2 ^ g) i (fun hle => ?_) (fun hlt => ?_))
      · rw [show i = 4 * 2 ^ g by omega] at h3 ⊢
        exact H s h3
      · have hcm2 := czs_mono (g + 2) (show i + 1 ≤ 4 * 2 ^ g by omega)
        rw [czs] at hcm2
        refine r_layFlickers hg hR hlt h3 hb.1 (by omega) (fun s2 hs2 z hz => ?_)
        rw [hz, nI_p1]
        exact ih (i + 1) s2 (by omega) (by omega) hs2
  have k1 : ∀ n i s, i ≤ 4 * 2 ^ g → 4 * 2 ^ g - i < n → smK (PW g w).1 (SPk (PW g w) w i) s → w_X10_laySignal_58 (fun (ysum_19 : Int32) (ysumAt_19 : Nat → Int32) => (∃ fu : Nat, w_X10_laySignal_99 (fun a b c => post a b c) (nI g) w (nI (PW g w).1) wA wO fu (0 : Int32) ysum_19 (0 : Int32) ysumAt_19)) (nI g) w (nI (PW g w).1) wA wO n (nI i) (nI (SPk (PW g w) w i).1) s := by
    intro n
    induction n with
    | zero => intro i s h1 h2; omega
    | succ n ih =>
      intro i s h1 h2 h3
      rw [w_X10_laySignal_58]
      have hb := SP_le (W := PW g w) (w := w) i
      have hr := ih (i + 1)
      have es : SPk (PW g w) w (i + 1) = spS (PW g w) w i (SPk (PW g w) w i) := rfl
      rw [es] at hr
      refine s_points hg (pk_le (4 * 2 ^ g) i (fun hle => ?_) (fun hlt => ⟨pk_in i 128 (by omega), ?_⟩))
      · rw [show i = 4 * 2 ^ g by omega] at h3 ⊢
        have := k2 129 0 s (Nat.zero_le _) (by omega) h3
        rw [show (SFk g (PW g w) w 0).1 - (SP g w).1 = 0 from Nat.sub_self _] at this
        exact ⟨129, this⟩
      · rw [nI_clamp (show i < 2 ^ 31 by omega)]
        refine ⟨fun w1 => ?_, fun w1 z hz => ?_⟩
        · rw [spS_t w1] at hr
          refine r_isSummed0 hW hR (by omega) h3 (by omega) (fun he => ⟨fun q => absurd q (by decide), fun _ z hz => ?_⟩) (fun hno => ⟨fun _ => r_addSum0 hW hR (by omega) (by omega) (fun z hz => ?_), fun q => absurd rfl q⟩)
          · have hr := hr s (by omega) (by omega)
            rw [cvS_t he] at hr
            rw [hz, nI_p1]
            exact hr h3
          · obtain ⟨c1, c2⟩ := cv_push h3 hno (hex1 hg hlt w1)
            have hr := hr _ (by omega) (by omega) c1
            rw [c2] at hr
            rw [hz, nI_p1]
            exact hr
        · have hr := hr s (by omega) (by omega)
          rw [spS_f w1] at hr
          rw [hz, nI_p1]
          exact hr h3
  exact ⟨129, k1 129 0 sa (Nat.zero_le _) (by omega) (fun i hi => absurd hi (Nat.not_lt_zero i))⟩
end SUMS
theorem SP_cg {g : Nat} {w w2 : Nat → Int32} (h : ∀ p, p < 4 * 2 ^ g → w p = w2 p) : SP g w = SP g w2 := by
  unfold SP SPk
  rw [PW_cg h]
  exact fo_cg (fun p T hp => by unfold spS; rw [h p hp])
theorem SF_cg {g : Nat} {w w2 : Nat → Int32} (hg : g ≤ 5) (h : ∀ p, p < 4 * 2 ^ g → w p = w2 p) : SF g w = SF g w2 := by
  have e := SP_cg h
  unfold SP at e
  unfold SF SFk
  rw [e, PW_cg h]
  refine fo_cg (fun p T hp => ?_)
  unfold flP
  refine fo_cg (fun b S hb => ?_)
  unfold flS
  rw [h p hp, h _ (bt_c5 g (by omega) p hp b hb)]
