/-! the sum of a signal -/
abbrev hbP (x p bt : Nat) : Prop := p &&& (x / 128) = x % 128 ∧ (x / 128) &&& bt = 0
def bsS (f : Nat → Nat) (p bt i b : Nat) : Nat := if hbP (f i) p bt ∧ (b = 0 ∨ pcI (nI (f i / 128)) < pcI (nI (f (b - 1) / 128))) then i + 1 else b
def BST (n : Nat) (f : Nat → Nat) (p bt : Nat) : Nat := fo (bsS f p bt) n 0
theorem BST_all (f : Nat → Nat) (p bt n : Nat) : BST n f p bt ≤ n ∧ (BST n f p bt = 0 → ∀ j, j < n → ¬ hbP (f j) p bt) := by
  refine fo_ind (f := bsS f p bt) (P := fun i b => b ≤ i ∧ (b = 0 → ∀ j, j < i → ¬ hbP (f j) p bt)) ⟨Nat.le_refl _, fun _ j hj => absurd hj (Nat.not_lt_zero j)⟩ (fun i b hi h => ?_)
  unfold bsS
  by_cases q : hbP (f i) p bt ∧ (b = 0 ∨ pcI (nI (f i / 128)) < pcI (nI (f (b - 1) / 128)))
  · rw [if_pos q]
    exact ⟨Nat.le_refl _, fun e => absurd e (by omega)⟩
  · rw [if_neg q]
    refine ⟨by have := h.1; omega, fun e j hj => ?_⟩
    by_cases ej : j = i
    · rw [ej]; exact fun r => q ⟨r, Or.inl e⟩
    · exact h.2 e j (by omega)
theorem BST_ex {f : Nat → Nat} {p bt n : Nat} (h : ∃ i, i < n ∧ hbP (f i) p bt) : ¬ BST n f p bt = 0 := fun e => by
  obtain ⟨i, h1, h2⟩ := h
  exact (BST_all f p bt n).2 e i h1 h2
noncomputable def cvS (n : Nat) (f : Nat → Nat) (p bt : Nat) (T : PL) : PL := @ite _ (∃ i, i < T.1 ∧ hbP (f (T.2 i)) p bt) (Classical.propDecidable _) T (psP T (BST n f p bt - 1))
theorem cvS_t {n p bt : Nat} {f : Nat → Nat} {T : PL} (h : ∃ i, i < T.1 ∧ hbP (f (T.2 i)) p bt) : cvS n f p bt T = T := if_pos h
theorem cvS_f {n p bt : Nat} {f : Nat → Nat} {T : PL} (h : ¬ ∃ i, i < T.1 ∧ hbP (f (T.2 i)) p bt) : cvS n f p bt T = psP T (BST n f p bt - 1) := if_neg h
theorem cvS_le (n p bt : Nat) (f : Nat → Nat) (T : PL) : T.1 ≤ (cvS n f p bt T).1 ∧ (cvS n f p bt T).1 ≤ T.1 + 1 := by
  by_cases h : ∃ i, i < T.1 ∧ hbP (f (T.2 i)) p bt
  · rw [cvS_t h]; omega
  · rw [cvS_f h]
    show T.1 ≤ T.1 + 1 ∧ T.1 + 1 ≤ T.1 + 1
    omega
/-- rows that hold the sum -/
def smK (n : Nat) (T : PL) (sa : Nat → Int32) : Prop := ∀ i, i < T.1 → sa i = nI (T.2 i) ∧ T.2 i < n
theorem smK_ps {n j : Nat} {T : PL} {sa : Nat → Int32} (h : smK n T sa) (hj : j < n) : smK n (psP T j) (upd sa T.1 (nI j)) := fun i hi => by
  have hi : i < T.1 + 1 := hi
  show upd sa T.1 (nI j) i = nI (if i = T.1 then j else T.2 i) ∧ (if i = T.1 then j else T.2 i) < n
  by_cases e : i = T.1
  · rw [if_pos e, e, pk_us]; exact ⟨rfl, hj⟩
  · rw [if_neg e, pk_un e]; exact h i (by omega)
theorem pc_8 : ∀ m, m < 128 → pcI (nI m) < 8 := by decide +kernel
/-- the list: at most 672, numbers below 128 twice over -/
def lsQ (W : PL) : Prop := W.1 ≤ 672 ∧ ∀ i, i < W.1 → W.2 i < 128 * 128
theorem g_hasBoth {post : Int32 → Prop} {wA wO : Nat → Int32} {W : PL} {j p bt : Nat} (hW : lsQ W) (hR : rowK W wA wO) (hj : j < W.1) (hp : p < 128) (hb : bt < 128) (H1 : hbP (W.2 j) p bt → post 1) (H0 : ¬ hbP (W.2 j) p bt → post 0) : wp_X4_hasBoth post wA wO (nI j) (nI p) (nI bt) := by
  have h672 := hW.1
  have hl := hW.2 j hj
  obtain ⟨e1, e2⟩ := hR j hj
  have hv : vp_in (nI j) 672 := pk_in j 672 (by omega)
  unfold wp_X4_hasBoth
  rw [nI_clamp (show j < 2 ^ 31 by omega), e1, e2, nx_and, nx_and]
  have l1 : W.2 j / 128 &&& bt ≤ bt := Nat.and_le_right
  have l2 : p &&& W.2 j / 128 ≤ p := Nat.and_le_left
  refine ⟨hv, pk_eq (W.2 j / 128 &&& bt) 0 (fun a => ⟨hv, hv, pk_eq (p &&& W.2 j / 128) (W.2 j % 128) (fun b => H1 ⟨b, a⟩) (fun b => H0 (fun q => b q.1))⟩) (fun a => H0 (fun q => a q.2))⟩
def bI1 (b : Nat) : Int32 := if b = 0 then -1 else nI (b - 1)
theorem bI1_0 : bI1 0 = -1 := rfl
theorem bI1_s (b : Nat) : bI1 (b + 1) = nI b := rfl
theorem g_cover {post : (Nat → Int32) → Int32 → Prop} {wA wO sa : Nat → Int32} {W T : PL} {p bt : Nat} (hW : lsQ W) (hR : rowK W wA wO) (hT : T.1 < 672) (hS : smK W.1 T sa) (hp : p < 128) (hb : bt < 128) (hex : ∃ i, i < W.1 ∧ hbP (W.2 i) p bt) (H : ∀ sa', smK W.1 (cvS W.1 W.2 p bt T) sa' → post sa' (nI (cvS W.1 W.2 p bt T).1)) : wp_X4_cover post wA wO sa (nI W.1) (nI T.1) (nI p) (nI bt) := by
  have h672 := hW.1
  have k1 : ∀ (KE : Prop), ((¬ ∃ i, i < T.1 ∧ hbP (W.2 (T.2 i)) p bt) → KE) → ∀ n i, i ≤ T.1 → T.1 - i < n → (∀ j, j < i → ¬ hbP (W.2 (T.2 j)) p bt) → w_X4_cover_2 post KE wA wO sa (nI T.1) (nI p) (nI bt) n (nI i) := by
    intro KE hK n
    induction n with
    | zero => intro i h1 h2; omega
    | succ n ih =>
      intro i h1 h2 h3
      refine pk_le T.1 i (fun hle => hK (fun q => ?_)) (fun hlt => ⟨pk_in i 672 (by omega), ?_⟩)
      · obtain ⟨j, j1, j2⟩ := q
        exact h3 j (by omega) j2
      · obtain ⟨e, hl⟩ := hS i hlt
        rw [nI_clamp (show i < 2 ^ 31 by omega), e]
        refine g_hasBoth hW hR hl hp hb (fun q => ⟨fun q1 => absurd q1 (by decide), fun _ => ?_⟩) (fun q => ⟨fun _ z hz => ?_, fun q1 => absurd rfl q1⟩)
        · have hc := cvS_t (n := W.1) (f := W.2) (T := T) ⟨i, hlt, q⟩
          rw [hc] at H
          exact H sa hS
        · rw [hz, nI_p1]
          refine ih (i + 1) (by omega) (by omega) (fun j hj => ?_)
          by_cases ej : j = i
          · rw [ej]; exact q
          · exact h3 j (by omega)
  refine ⟨T.1 + 1, k1 _ (fun hno => ⟨W.1 + 1, ?_⟩) (T.1 + 1) 0 (by omega) (by omega) (fun j hj => absurd hj (by omega))⟩
  have hne := BST_ex hex
  have hbl := (BST_all W.2 p bt W.1).1
  have hc := cvS_f (n := W.1) (f := W.2) (T := T) hno
  rw [hc] at H
  have k2 : ∀ n i, i ≤ W.1 → W.1 - i < n → w_X4_cover_41 (fun (x3_18 : Int32) => ((x3_18 = ((-1) : Int32) → post sa (nI T.1)) ∧ (¬ x3_18 = ((-1) : Int32) → (((672 : Int32) ≤ nI T.1 → post sa (nI T.1)) ∧ (¬ (672 : Int32) ≤ nI T.1 → (vp_in (nI T.1) 672 ∧ ∀ a_21 : Nat → Int32, a_21 = upd sa (nI T.1).toNatClampNeg x3_18 → (∀ f_22 : Int32, f_22 = (nI T.1 + (1 : Int32)) → post a_21 f_22))))))) wA wO (nI W.1) (nI p) (nI bt) n (bI1 (BST i W.2 p bt)) (if BST i W.2 p bt = 0 then 8 else pcI (nI (W.2 (BST i W.2 p bt - 1) / 128))) (nI i) := by
    intro n
    induction n with
    | zero => intro i h1 h2; omega
    | succ n ih =>
      intro i h1 h2
      have hr := ih (i + 1)
      have es : BST (i + 1) W.2 p bt = bsS W.2 p bt i (BST i W.2 p bt) := rfl
      rw [es] at hr
      have hbi := (BST_all W.2 p bt i).1
      refine pk_le W.1 i (fun hle => ?_) (fun hlt => ?_)
      · rw [show i = W.1 by omega]
        obtain ⟨b, eb⟩ : ∃ b, BST W.1 W.2 p bt = b + 1 := ⟨BST W.1 W.2 p bt - 1, by omega⟩
        rw [eb, bI1_s]
        rw [eb] at H hbl
        refine ⟨fun q => absurd q (m1_ne (by omega)), fun _ => pk_le 672 T.1 (fun q => absurd q (by omega)) (fun _ => ⟨pk_in T.1 672 hT, fun a ha f hf => ?_⟩)⟩
        rw [nI_clamp (show T.1 < 2 ^ 31 by omega)] at ha
        rw [hf, nI_p1, ha]
        exact H _ (smK_ps hS (by omega))
      · have hr := hr (by omega) (by omega)
        revert hr hbi
        generalize BST i W.2 p bt = b
        intro hbi hr
        obtain ⟨e1, e2⟩ := hR i hlt
        have hl := hW.2 i hlt
        have hv : vp_in (nI i) 672 := pk_in i 672 (by omega)
        refine g_hasBoth hW hR hlt hp hb (fun q => ⟨fun q1 => absurd q1 (by decide), fun _ => ⟨hv, ?_⟩⟩) (fun q => ⟨fun _ z hz => ?_, fun q1 => absurd rfl q1⟩)
        · rw [nI_clamp (show i < 2 ^ 31 by omega), e1]
          refine g_bitCount (by omega) ⟨fun q2 z hz => ?_, fun q2 => ⟨hv, g_bitCount (by omega) (fun z hz => ?_)⟩⟩
          · rw [hz, nI_p1 i]
            have hn : ¬ (hbP (W.2 i) p bt ∧ (b = 0 ∨ pcI (nI (W.2 i / 128)) < pcI (nI (W.2 (b - 1) / 128)))) := fun r => by
              rcases r.2 with r | r
              · rw [if_pos r] at q2
                exact i32_le_nlt q2 (pc_8 _ (by omega))
              · by_cases eb : b = 0
                · rw [if_pos eb] at q2
                  exact i32_le_nlt q2 (pc_8 _ (by omega))
                · rw [if_neg eb] at q2
                  exact i32_le_nlt q2 r
            unfold bsS at hr
            rw [if_neg hn] at hr
            exact hr
          · rw [hz, nI_p1 i]
            have hy : hbP (W.2 i) p bt ∧ (b = 0 ∨ pcI (nI (W.2 i / 128)) < pcI (nI (W.2 (b - 1) / 128))) := by
              refine ⟨q, ?_⟩
              by_cases eb : b = 0
              · exact Or.inl eb
              · rw [if_neg eb] at q2
                exact Or.inr (i32_nle_lt q2)
            unfold bsS at hr
            rw [if_pos hy, if_neg (show ¬ i + 1 = 0 by omega), bI1_s, Nat.add_sub_cancel] at hr
            exact hr
        · rw [hz, nI_p1 i]
          unfold bsS at hr
          rw [if_neg (fun r => q r.1)] at hr
          exact hr
  exact k2 (W.1 + 1) 0 (by omega) (by omega)
/-! the reference -/
theorem hb_iff {p a o bt : Nat} (h : p &&& bt = 0) : (p &&& a = o ∧ (p ||| bt) &&& a = o) ↔ (p &&& a = o ∧ a &&& bt = 0) := by
  refine ⟨fun ⟨h1, h2⟩ => ⟨h1, ?_⟩, fun ⟨h1, h2⟩ => ⟨h1, ?_⟩⟩
  · rw [Nat.and_or_distrib_right, h1] at h2
    have h3 : bt &&& a &&& o = bt &&& a := by
      rw [← h2]
      apply Nat.eq_of_testBit_eq
      intro i
      simp only [Nat.testBit_and, Nat.testBit_or]
      cases bt.testBit i <;> cases a.testBit i <;> cases o.testBit i <;> rfl
    rw [← h1] at h3
    rw [Nat.and_comm, ← h3]
    apply Nat.eq_of_testBit_eq
    intro i
    have h4 := congrArg (fun y => y.testBit i) h
    simp only [Nat.testBit_and, Nat.zero_testBit] at h4 ⊢
    cases hb : bt.testBit i <;> cases hp : p.testBit i <;> simp_all
  · rw [Nat.and_or_distrib_right, h1, Nat.and_comm bt, h2, Nat.or_zero]
theorem r_isSummed {post : Int32 → Prop} {wA wO sa : Nat → Int32} {W T : PL} {p bt : Nat} (hW : lsQ W) (hR : rowK W wA wO) (hT : T.1 ≤ 600) (hS : smK W.1 T sa) (hp : p < 128) (hq : p ||| bt < 128) (h0 : p &&& bt = 0) (H1 : (∃ i, i < T.1 ∧ hbP (W.2 (T.2 i)) p bt) → post 1) (H0 : ¬ (∃ i, i < T.1 ∧ hbP (W.2 (T.2 i)) p bt) → post 0) : wp_X10_isSummed post wA wO (nI T.1) sa (nI p) (nI (p ||| bt)) := by
  have h672 := hW.1
  have key1 : (∃ i, i < T.1 ∧ hbP (W.2 (T.2 i)) p bt) → ∀ n i, i ≤ T.1 → T.1 - i < n → w_X10_isSummed_5 (fun (x : Int32) => (narrow .boolean (.int x) = .int x ∧ post x)) wA wO (nI T.1) sa (nI p) (nI (p ||| bt)) n 1 (nI i) := by
    intro hw n
    induction n with
    | zero => intro i h1 h2; omega
    | succ n ih =>
      intro i h1 h2
      refine pk_le T.1 i (fun _ => ⟨bz1, H1 hw⟩) (fun hlt => ⟨pk_in i 600 (by omega), fun z hz => ⟨fun q => absurd q (by decide), fun _ b hb => ?_⟩⟩)
      rw [hb, nI_p1]
      exact ih (i + 1) (by omega) (by omega)
  have key : ∀ n i, i ≤ T.1 → T.1 - i < n → (∀ j, j < i → ¬ hbP (W.2 (T.2 j)) p bt) → w_X10_isSummed_5 (fun (x : Int32) => (narrow .boolean (.int x) = .int x ∧ post x)) wA wO (nI T.1) sa (nI p) (nI (p ||| bt)) n 0 (nI i) := by
    intro n
    induction n with
    | zero => intro i h1 h2; omega
    | succ n ih =>
      intro i h1 h2 h3
      refine pk_le T.1 i (fun hle => ⟨bz0, H0 (fun q => ?_)⟩) (fun hlt => ⟨pk_in i 600 (by omega), fun z hz => ⟨fun _ => ?_, fun q => absurd rfl q⟩⟩)
      · obtain ⟨j, j1, j2⟩ := q
        exact h3 j (by omega) j2
      · obtain ⟨e, hl⟩ := hS i hlt
        have hwl := hW.2 _ hl
        obtain ⟨e1, e2⟩ := hR _ hl
        rw [nI_clamp (show i < 2 ^ 31 by omega), e] at hz
        rw [hz, nI_clamp (show T.2 i < 2 ^ 31 by omega), e1, e2]
        have hv : vp_in (nI (T.2 i)) 2187 := pk_in (T.2 i) 2187 (by omega)
        have hrec : ¬ hbP (W.2 (T.2 i)) p bt → ∀ b, b = nI i + 1 → w_X10_isSummed_5 (fun (x : Int32) => (narrow .boolean (.int x) = .int x ∧ post x)) wA wO (nI T.1) sa (nI p) (nI (p ||| bt)) n 0 b := fun hn b hb => by
          rw [hb, nI_p1]
          refine ih (i + 1) (by omega) (by omega) (fun j hj => ?_)
          by_cases ej : j = i
          · rw [ej]; exact hn
          · exact h3 j (by omega)
        refine ⟨hv, hv, s_has (by omega) (by omega) hp (fun q1 => ⟨fun q => absurd q (by decide), fun _ => ⟨hv, hv, s_has (by omega) (by omega) hq (fun q2 => ⟨fun q => absurd q (by decide), fun _ b hb => ?_⟩) (fun q2 => ⟨fun _ => hrec (fun r => q2 ((hb_iff h0).mpr r).2), fun q => absurd rfl q⟩)⟩⟩) (fun q1 => ⟨fun _ => hrec (fun r => q1 r.1), fun q => absurd rfl q⟩)⟩
        rw [hb, nI_p1]
        exact key1 ⟨i, hlt, (hb_iff h0).mp ⟨q1, q2⟩⟩ n (i + 1) (by omega) (by omega)
  exact ⟨T.1 + 1, key (T.1 + 1) 0 (by omega) (by omega) (fun j hj => absurd hj (by omega))⟩
theorem r_addSum {post : Int32 → (Nat → Int32) → Prop} {wA wO sa : Nat → Int32} {W T : PL} {p bt : Nat} (hW : lsQ W) (hR : rowK W wA wO) (hT : T.1 < 600) (hp : p < 128) (hq : p ||| bt < 128) (h0 : p &&& bt = 0) (H : post (nI (T.1 + 1)) (upd sa T.1 (bI1 (BST W.1 W.2 p bt)))) : wp_X10_addSum post (nI W.1) wA wO (nI T.1) sa (nI p) (nI (p ||| bt)) := by
  have h672 := hW.1
  have key : ∀ n i, i ≤ W.1 → W.1 - i < n → w_X10_addSum_5 (fun (x3_21 : Int32) => (vp_in (nI T.1) 600 ∧ ∀ a_22 : Nat → Int32, a_22 = upd sa (nI T.1).toNatClampNeg x3_21 → (∀ f_23 : Int32, f_23 = (nI T.1 + (1 : Int32)) → post f_23 a_22))) (nI W.1) wA wO (nI p) (nI (p ||| bt)) n (bI1 (BST i W.2 p bt)) (nI i) := by
    intro n
    induction n with
    | zero => intro i h1 h2; omega
    | succ n ih =>
      intro i h1 h2
      have hr := ih (i + 1)
      have es : BST (i + 1) W.2 p bt = bsS W.2 p bt i (BST i W.2 p bt) := rfl
      rw [es] at hr
      have hbi := (BST_all W.2 p bt i).1
      refine pk_le W.1 i (fun hle => ⟨pk_in T.1 600 hT, fun a ha f hf => ?_⟩) (fun hlt => ?_)
      · rw [nI_clamp (show T.1 < 2 ^ 31 by omega), show i = W.1 by omega] at ha
        rw [hf, nI_p1, ha]
        exact H
      · have hr := hr (by omega) (by omega)
        revert hr hbi
        generalize BST i W.2 p bt = b
        intro hbi hr
        obtain ⟨e1, e2⟩ := hR i hlt
        have hl := hW.2 i hlt
        have hv : vp_in (nI i) 2187 := pk_in i 2187 (by omega)
        rw [nI_clamp (show i < 2 ^ 31 by omega), e1, e2]
        unfold bsS at hr
        have J0 : ¬ hbP (W.2 i) p bt → j_X10_addSum_61 (w_X10_addSum_5 (fun (x3_21 : Int32) => (vp_in (nI T.1) 600 ∧ ∀ a_22 : Nat → Int32, a_22 = upd sa (nI T.1).toNatClampNeg x3_21 → (∀ f_23 : Int32, f_23 = (nI T.1 + (1 : Int32)) → post f_23 a_22))) (nI W.1) wA wO (nI p) (nI (p ||| bt)) n) wA (bI1 b) (nI i) 0 := fun q => ⟨fun _ z hz => by
          rw [if_neg (fun r => q r.1)] at hr
          rw [hz, nI_p1 i]
          exact hr, fun q1 => absurd rfl q1⟩
        have J1 : hbP (W.2 i) p bt → j_X10_addSum_61 (w_X10_addSum_5 (fun (x3_21 : Int32) => (vp_in (nI T.1) 600 ∧ ∀ a_22 : Nat → Int32, a_22 = upd sa (nI T.1).toNatClampNeg x3_21 → (∀ f_23 : Int32, f_23 = (nI T.1 + (1 : Int32)) → post f_23 a_22))) (nI W.1) wA wO (nI p) (nI (p ||| bt)) n) wA (bI1 b) (nI i) 1 := fun q => by
          refine ⟨fun q1 => absurd q1 (by decide), fun _ => ?_⟩
          cases b with
          | zero =>
            rw [if_pos ⟨q, Or.inl rfl⟩, bI1_s] at hr
            refine ⟨fun _ z hz => ?_, fun q1 => absurd bI1_0 q1⟩
            rw [hz, nI_p1 i]
            exact hr
          | succ b =>
            rw [bI1_s]
            rw [Nat.add_sub_cancel] at hr
            obtain ⟨e3, _⟩ := hR b (by omega)
            refine ⟨fun q1 => absurd q1 (m1_ne (by omega)), fun _ => ⟨hv, ?_⟩⟩
            rw [nI_clamp (show i < 2 ^ 31 by omega), nI_clamp (show b < 2 ^ 31 by omega), e1, e3]
            refine r_ones ⟨pk_in b 2187 (by omega), r_ones ⟨fun q2 z hz => ?_, fun q2 z hz => ?_⟩⟩
            · rw [if_neg (fun r => r.2.elim (fun e => absurd e (by omega)) (i32_le_nlt q2)), bI1_s] at hr
              rw [hz, nI_p1 i]
              exact hr
            · rw [if_pos ⟨q, Or.inr (i32_nle_lt q2)⟩, bI1_s] at hr
              rw [hz, nI_p1 i]
              exact hr
        exact ⟨hv, hv, s_has (by omega) (by omega) hp (fun q1 => ⟨fun q => absurd q (by decide), fun _ => ⟨hv, hv, s_has (by omega) (by omega) hq (fun q2 => ⟨fun q => absurd q (by decide), fun _ => J1 ((hb_iff h0).mp ⟨q1, q2⟩)⟩) (fun q2 => ⟨fun _ => J0 (fun r => q2 ((hb_iff h0).mpr r).2), fun q => absurd rfl q⟩)⟩⟩) (fun q1 => ⟨fun _ => J0 (fun r => q1 r.1), fun q => absurd rfl q⟩)⟩
  exact ⟨W.1 + 1, key (W.1 + 1) 0 (by omega) (by omega)⟩
