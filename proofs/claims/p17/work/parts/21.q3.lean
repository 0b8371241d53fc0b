/-! the wide products in order -/
theorem bt_and0 : ∀ A, A < 128 → ∀ b, b < 7 → ((nI A &&& ((1 : Int32) <<< (nI b &&& 31))) = 0 ↔ A.testBit b = false) := by decide +kernel
theorem g_cisWide {post : Int32 → Prop} {se it w : Nat → Int32} {g a o : Nat} (hg : g ≤ 5) (h3 : ∀ k, k < 128 → it k = nI (t3 k)) (hS : seenK g w se 0) (ha : a < 4 * 2 ^ g) (ho : o &&& a = o) (H1 : wideP (4 * 2 ^ g) (g + 2) w a o → post 1) (H0 : ¬ wideP (4 * 2 ^ g) (g + 2) w a o → post 0) : wp_X1_isWide post se it (nI (4 * 2 ^ g - 1)) (nI a) (nI o) := by
  have hq := p4_le hg
  have lo := sub_le ho
  have hin : ∀ a, a < 4 * 2 ^ g → a &&& (4 * 2 ^ g - 1) = a := fun a h => bt_c4 g (by omega) a h
  have hix := ix_d (fr (4 * 2 ^ g - 1) a) (fr_lt (by omega)) o (by omega) (fr_0 ho (by omega))
  refine g_indexOf (by omega) h3 (hin a ha) ho ⟨pk_in _ 2187 hix.1, ?_⟩
  rw [nI_clamp (show ixN o (fr (4 * 2 ^ g - 1) a) < 2 ^ 31 by omega), hS a o (Nat.zero_le _) ha ho]
  have h4 := svP_4 (hasOneP (4 * 2 ^ g) w a o) (¬ clean (4 * 2 ^ g) w a o)
  have hsv : SV (4 * 2 ^ g) w a o < 4 := h4
  refine pk_eq (SV (4 * 2 ^ g) w a o) 1 (fun e => ⟨8, ?_⟩) (fun e => H0 (fun hw => e (svP_1.mpr ⟨hw.2.1, fun q => q hw.2.2.1⟩)))
  obtain ⟨c2, c3⟩ := svP_1.mp e
  have c3 : clean (4 * 2 ^ g) w a o := Classical.byContradiction c3
  have key : ∀ n i, i ≤ 7 → 7 - i < n → (∀ b, b < i → a.testBit b = true → ¬ clean (4 * 2 ^ g) w (a &&& (127 - 2 ^ b)) (o &&& (127 - 2 ^ b))) → w_X1_isWide_19 post (post (1 : Int32)) se it (nI (4 * 2 ^ g - 1)) (nI a) (nI o) n (nI i) := by
    intro n
    induction n with
    | zero => intro i h1 h2; omega
    | succ n ih =>
      intro i h1 h2 h5
      refine pk_le 7 i (fun hle => H1 ⟨ho, c2, c3, fun b hb => h5 b (by omega)⟩) (fun hlt x4 e4 => ?_)
      rw [e4, bt_and0 a (by omega) i hlt, bt_clr a (by omega) i hlt, bt_clr o (by omega) i hlt]
      have hrec : (a.testBit i = true → ¬ clean (4 * 2 ^ g) w (a &&& (127 - 2 ^ i)) (o &&& (127 - 2 ^ i))) → ∀ b, b = nI i + 1 → w_X1_isWide_19 post (post (1 : Int32)) se it (nI (4 * 2 ^ g - 1)) (nI a) (nI o) n b := fun hq b hb => by
        rw [hb, nI_p1]
        refine ih (i + 1) (by omega) (by omega) (fun b hb => ?_)
        by_cases eb : b = i
        · rw [eb]; exact hq
        · exact h5 b (by omega)
      refine ⟨fun q => hrec (fun q2 => by rw [q] at q2; exact absurd q2 (by decide)), fun q => ?_⟩
      have hb : a.testBit i = true := by
        cases h : a.testBit i
        · exact absurd h q
        · rfl
      have la : a &&& (127 - 2 ^ i) ≤ a := Nat.and_le_left
      have ho' : (o &&& (127 - 2 ^ i)) &&& (a &&& (127 - 2 ^ i)) = o &&& (127 - 2 ^ i) := by
        rw [Nat.and_comm a, ← Nat.and_assoc, Nat.and_assoc o, Nat.and_self, Nat.and_assoc, Nat.and_comm _ a, ← Nat.and_assoc, ho]
      have lo' := sub_le ho'
      have hix' := ix_d (fr (4 * 2 ^ g - 1) (a &&& (127 - 2 ^ i))) (fr_lt (by omega)) (o &&& (127 - 2 ^ i)) (by omega) (fr_0 ho' (by omega))
      refine g_indexOf (by omega) h3 (hin _ (by omega)) ho' ⟨pk_in _ 2187 hix'.1, ?_⟩
      rw [nI_clamp (show ixN (o &&& (127 - 2 ^ i)) (fr (4 * 2 ^ g - 1) (a &&& (127 - 2 ^ i))) < 2 ^ 31 by omega), hS _ _ (Nat.zero_le _) (by omega) ho']
      have hsv' : SV (4 * 2 ^ g) w (a &&& (127 - 2 ^ i)) (o &&& (127 - 2 ^ i)) < 4 := svP_4 _ _
      refine pk_eq (SV (4 * 2 ^ g) w (a &&& (127 - 2 ^ i)) (o &&& (127 - 2 ^ i))) 1 (fun e1 => H0 (fun hw => ?_)) (fun e1 => hrec (fun _ hc => e1 (svP_1.mpr ⟨?_, fun q => q hc⟩)))
      · have hbn : i < g + 2 := by
          rcases Nat.lt_or_ge i (g + 2) with r | r
          · exact r
          · have e3 : 2 ^ (2 + g) = 4 * 2 ^ g := by rw [Nat.pow_add]
            have := Nat.testBit_lt_two_pow (Nat.lt_of_lt_of_le (show a < 2 ^ (2 + g) by omega) (Nat.pow_le_pow_right (by omega) (show 2 + g ≤ i by omega)))
            rw [this] at hb
            exact absurd hb (by decide)
        exact hw.2.2.2 i hbn hb (Classical.byContradiction (svP_1.mp e1).2)
      · obtain ⟨x, x1, x2, x3⟩ := c2
        exact ⟨x, x1, x2, by rw [← Nat.and_assoc, x3]⟩
  exact key 8 0 (by omega) (by omega) (fun b hb => absurd hb (by omega))
/-- all of them, by number 128 times what is asked and what is 1 -/
abbrev PL : Type := Nat × (Nat → Nat)
def psP (T : PL) (x : Nat) : PL := (T.1 + 1, fun i => if i = T.1 then x else T.2 i)
noncomputable def pwS (g : Nat) (w : Nat → Int32) (x : Nat) (T : PL) : PL := @ite _ (wideP (4 * 2 ^ g) (g + 2) w (x / 128) (x % 128)) (Classical.propDecidable _) (psP T x) T
noncomputable def PWk (g : Nat) (w : Nat → Int32) (x : Nat) : PL := fo (pwS g w) x (0, fun _ => 0)
noncomputable def PW (g : Nat) (w : Nat → Int32) : PL := PWk g w (128 * (4 * 2 ^ g))
section WIDE
variable {g : Nat} {w : Nat → Int32}
theorem PWk_t {x : Nat} (h : wideP (4 * 2 ^ g) (g + 2) w (x / 128) (x % 128)) : PWk g w (x + 1) = psP (PWk g w x) x := if_pos h
theorem PWk_f {x : Nat} (h : ¬ wideP (4 * 2 ^ g) (g + 2) w (x / 128) (x % 128)) : PWk g w (x + 1) = PWk g w x := if_neg h
theorem PWk_skip {x y : Nat} (hxy : x ≤ y) (h : ∀ z, x ≤ z → z < y → ¬ wideP (4 * 2 ^ g) (g + 2) w (z / 128) (z % 128)) : PWk g w y = PWk g w x := by
  induction y with
  | zero => rw [show x = 0 by omega]
  | succ y ih =>
    by_cases e : x = y + 1
    · rw [e]
    · rw [PWk_f (h y (by omega) (by omega)), ih (by omega) (fun z h1 h2 => h z h1 (by omega))]
theorem PWk_all (x : Nat) : (∀ i, i < (PWk g w x).1 → wideP (4 * 2 ^ g) (g + 2) w ((PWk g w x).2 i / 128) ((PWk g w x).2 i % 128) ∧ (PWk g w x).2 i < x) ∧ ∀ i j, i < j → j < (PWk g w x).1 → (PWk g w x).2 i < (PWk g w x).2 j := by
  induction x with
  | zero => exact ⟨fun i hi => absurd hi (Nat.not_lt_zero i), fun i j _ hj => absurd hj (Nat.not_lt_zero j)⟩
  | succ x ih =>
    by_cases h : wideP (4 * 2 ^ g) (g + 2) w (x / 128) (x % 128)
    · rw [PWk_t h]
      revert ih
      generalize PWk g w x = T
      intro ih
      refine ⟨fun i hi => ?_, fun i j hij hj => ?_⟩
      · have hi : i < T.1 + 1 := hi
        show wideP (4 * 2 ^ g) (g + 2) w ((if i = T.1 then x else T.2 i) / 128) ((if i = T.1 then x else T.2 i) % 128) ∧ (if i = T.1 then x else T.2 i) < x + 1
        by_cases e : i = T.1
        · rw [if_pos e]; exact ⟨h, by omega⟩
        · rw [if_neg e]
          have := ih.1 i (by omega)
          exact ⟨this.1, by omega⟩
      · have hj : j < T.1 + 1 := hj
        show (if i = T.1 then x else T.2 i) < (if j = T.1 then x else T.2 j)
        rw [if_neg (show ¬ i = T.1 by omega)]
        by_cases e : j = T.1
        · rw [if_pos e]; exact (ih.1 i (by omega)).2
        · rw [if_neg e]; exact ih.2 i j hij (by omega)
    · rw [PWk_f h]
      exact ⟨fun i hi => ⟨(ih.1 i hi).1, by have := (ih.1 i hi).2; omega⟩, ih.2⟩
theorem PWk_672 (hg : g ≤ 5) {x : Nat} (hx : x ≤ 128 * (4 * 2 ^ g)) : (PWk g w x).1 ≤ 672 := by
  have hq := p4_le hg
  have e3 : 2 ^ (g + 2) = 4 * 2 ^ g := by rw [Nat.add_comm, Nat.pow_add]
  obtain ⟨h1, h2⟩ := PWk_all (g := g) (w := w) x
  have hd : ∀ i, i < (PWk g w x).1 → (PWk g w x).2 i / 128 < 4 * 2 ^ g := fun i hi => by
    have := (h1 i hi).2
    omega
  refine lym_672 (A := fun i => (PWk g w x).2 i / 128) (O := fun i => (PWk g w x).2 i % 128) (fun i hi => ⟨by have := hd i hi; show (PWk g w x).2 i / 128 < 128; omega, (h1 i hi).1.1⟩) (fun i j hi hj ha ho => ?_)
  have := wide_in (h1 j hj).1 (h1 i hi).1 (by have := hd j hj; rw [e3]; exact this) (by omega) ha ho
  have e : (PWk g w x).2 j = (PWk g w x).2 i := by omega
  rcases Nat.lt_trichotomy i j with q | q | q
  · have := h2 i j q hj
    omega
  · exact q
  · have := h2 j i q hi
    omega
/-- rows that hold the list -/
def rowK (T : PL) (wA wO : Nat → Int32) : Prop := ∀ i, i < T.1 → wA i = nI (T.2 i / 128) ∧ wO i = nI (T.2 i % 128)
theorem rowK_ps {T : PL} {wA wO : Nat → Int32} {a o : Nat} (h : rowK T wA wO) (ho : o < 128) : rowK (psP T (128 * a + o)) (upd wA T.1 (nI a)) (upd wO T.1 (nI o)) := fun i hi => by
  have hi : i < T.1 + 1 := hi
  show upd wA T.1 (nI a) i = nI ((if i = T.1 then 128 * a + o else T.2 i) / 128) ∧ upd wO T.1 (nI o) i = nI ((if i = T.1 then 128 * a + o else T.2 i) % 128)
  by_cases e : i = T.1
  · rw [e, pk_us, pk_us, if_pos rfl, show (128 * a + o) / 128 = a by omega, show (128 * a + o) % 128 = o by omega]
    exact ⟨rfl, rfl⟩
  · rw [pk_un e, pk_un e, if_neg e]
    exact h i (by omega)
theorem wide_sub {a o : Nat} (h : wideP (4 * 2 ^ g) (g + 2) w a o) : o ≤ a := sub_le h.1
theorem key_d {a o : Nat} (ho : o < 128) : (128 * a + o) / 128 = a ∧ (128 * a + o) % 128 = o := by omega
theorem r_layWide {post : Int32 → (Nat → Int32) → (Nat → Int32) → Prop} {wA wO : Nat → Int32} {wd0 : Int32} (hg : g ≤ 5) (H : ∀ wA' wO', rowK (PW g w) wA' wO' → post (nI (PW g w).1) wA' wO') : wp_X10_layWide post (nI g) w wd0 wA wO := by
  have hq := p4_le hg
  have k2 : ∀ (KE : Int32 → (Nat → Int32) → (Nat → Int32) → Prop) (A : Nat), A < 4 * 2 ^ g → (∀ a b, rowK (PWk g w (128 * (A + 1))) a b → KE (nI (PWk g w (128 * (A + 1))).1) a b) → ∀ n i a b, i ≤ A + 1 → A + 1 - i < n → rowK (PWk g w (128 * A + i)) a b → w_X10_layWide_17 KE (nI g) w (nI A) n (nI i) (nI (PWk g w (128 * A + i)).1) a b := by
    intro KE A hA hKE n
    induction n with
    | zero => intro i a b h1 h2; omega
    | succ n ih =>
      intro i a b h1 h2 h3
      refine pk_lt A i (fun hlt => ?_) (fun hle => ?_)
      · have e : PWk g w (128 * (A + 1)) = PWk g w (128 * A + i) := PWk_skip (by omega) (fun z z1 z2 hw => by
          have := wide_sub hw
          omega)
        rw [e] at hKE
        exact hKE a b h3
      · have h672 := PWk_672 (w := w) hg (show 128 * A + i + 1 ≤ 128 * (4 * 2 ^ g) by omega)
        have hd := key_d (a := A) (o := i) (by omega)
        refine s_isWide hg (by omega) (by omega) (fun hw => ⟨fun q => absurd q (by decide), fun _ => ?_⟩) (fun hw => ⟨fun _ z hz => ?_, fun q => absurd rfl q⟩)
        · have e := PWk_t (g := g) (w := w) (x := 128 * A + i) (by rw [hd.1, hd.2]; exact hw)
          have hr := ih (i + 1) (upd a (PWk g w (128 * A + i)).1 (nI A)) (upd b (PWk g w (128 * A + i)).1 (nI i)) (by omega) (by omega)
          rw [show 128 * A + (i + 1) = 128 * A + i + 1 by omega, e] at hr
          rw [e] at h672
          have h672 : (PWk g w (128 * A + i)).1 + 1 ≤ 672 := h672
          have hr := hr (rowK_ps h3 (by omega))
          have hv : vp_in (nI (PWk g w (128 * A + i)).1) 2187 := pk_in (PWk g w (128 * A + i)).1 2187 (by omega)
          refine ⟨hv, fun a2 ha => ⟨hv, fun b2 hb f hf z hz => ?_⟩⟩
          rw [nI_clamp (show (PWk g w (128 * A + i)).1 < 2 ^ 31 by omega)] at ha hb
          rw [hf, hz, nI_p1, nI_p1, ha, hb]
          exact hr
        · have e := PWk_f (g := g) (w := w) (x := 128 * A + i) (by rw [hd.1, hd.2]; exact hw)
          have hr := ih (i + 1) a b (by omega) (by omega)
          rw [show 128 * A + (i + 1) = 128 * A + i + 1 by omega, e] at hr
          rw [hz, nI_p1]
          exact hr h3
  have k1 : ∀ n i a b, i ≤ 4 * 2 ^ g → 4 * 2 ^ g - i < n → rowK (PWk g w (128 * i)) a b → w_X10_layWide_7 (fun x y z => post x y z) (nI g) w n (nI i) (nI (PWk g w (128 * i)).1) a b := by
    intro n
    induction n with
    | zero => intro i a b h1 h2; omega
    | succ n ih =>
      intro i a b h1 h2 h3
      rw [w_X10_layWide_7]
      refine s_points hg (pk_le (4 * 2 ^ g) i (fun hle => ?_) (fun hlt => ⟨i + 2, k2 _ i hlt (fun a' b' hr z hz => ?_) (i + 2) 0 a b (by omega) (by omega) h3⟩))
      · rw [show i = 4 * 2 ^ g by omega] at h3 ⊢
        exact H a b h3
      · rw [hz, nI_p1]
        exact ih (i + 1) a' b' (by omega) (by omega) hr
  exact ⟨129, k1 129 0 wA wO (Nat.zero_le _) (by omega) (fun i hi => absurd hi (Nat.not_lt_zero i))⟩
theorem g_collectWide {post : (Nat → Int32) → (Nat → Int32) → Int32 → Prop} {se it wA wO : Nat → Int32} {wz : Int32} (hg : g ≤ 5) (h3 : ∀ k, k < 128 → it k = nI (t3 k)) (hS : seenK g w se 0) (H : ∀ wA' wO', rowK (PW g w) wA' wO' → post wA' wO' (nI (PW g w).1)) : wp_X4_collectWide post se it (nI (4 * 2 ^ g - 1)) wA wO wz := by
  have hq := p4_le hg
  have hpos : 0 < 4 * 2 ^ g := by have := Nat.two_pow_pos g; omega
  have k2 : ∀ (KE : (Nat → Int32) → (Nat → Int32) → Int32 → Prop) (A : Nat), A < 4 * 2 ^ g → (∀ a b, rowK (PWk g w (128 * (A + 1))) a b → KE a b (nI (PWk g w (128 * (A + 1))).1)) → ∀ n o left a b, o &&& A = o → left = px 7 A A + 1 - px 7 A o → left < n → px 7 A o ≤ px 7 A A → rowK (PWk g w (128 * A + o)) a b → w_X4_collectWide_25 KE se it (nI (4 * 2 ^ g - 1)) (nI A) (n + 1) (nI o) (nI left) a b (nI (PWk g w (128 * A + o)).1) := by
    intro KE A hA hKE n
    have ea := en4 A (by omega)
    induction n with
    | zero => intro o left a b _ _ h; omega
    | succ n ih =>
      intro o left a b ho hl hn hpx h5
      have lo := sub_le ho
      have hpxa := ea.2.2
      refine pk_le left 0 (fun hle => absurd hle (by omega)) (fun _ => ?_)
      have hd := key_d (a := A) (o := o) (by omega)
      -- one step on
      have hrec : ∀ (a b : Nat → Int32) (o2 l2 : Int32), rowK (PWk g w (128 * A + o + 1)) a b → o2 = (nI o - nI A) &&& nI A → l2 = nI left + (-1) → w_X4_collectWide_25 KE se it (nI (4 * 2 ^ g - 1)) (nI A) (n + 1) o2 l2 a b (nI (PWk g w (128 * A + o + 1)).1) := by
        intro a b o2 l2 hr eo el
        rw [en1 A (by omega) o (by omega) ho] at eo
        obtain ⟨l1, hl1⟩ : ∃ l1, left = l1 + 1 := ⟨left - 1, by omega⟩
        rw [hl1, pk_m1] at el
        rw [eo, el]
        by_cases eoa : o = A
        · have : l1 = 0 := by rw [eoa] at hl; omega
          rw [this]
          refine ⟨fun _ => ?_, fun q => absurd (by decide) q⟩
          have e : PWk g w (128 * (A + 1)) = PWk g w (128 * A + o + 1) := PWk_skip (by omega) (fun z z1 z2 hw => by
            have := wide_sub hw
            omega)
          rw [e] at hKE
          exact hKE a b hr
        · obtain ⟨n1, n2, n3, n4⟩ := en2 A (by omega) o (by omega) ho eoa
          have hnx := sub_le n2
          have e : PWk g w (128 * A + nxs A o) = PWk g w (128 * A + o + 1) := PWk_skip (by omega) (fun z z1 z2 hw => by
            have hz1 : z / 128 = A := by omega
            have hz2 : z % 128 = z - 128 * A := by omega
            rw [hz1, hz2] at hw
            exact en3 A (by omega) o (by omega) ho (z - 128 * A) (by omega) (by omega) hw.1)
          have := ih (nxs A o) l1 a b n2 (by omega) (by omega) (by omega)
          rw [e] at this
          exact this hr
      have h672 := PWk_672 (w := w) hg (show 128 * A + o + 1 ≤ 128 * (4 * 2 ^ g) by omega)
      refine pk_le 672 (PWk g w (128 * A + o)).1 (fun hfull o2 eo l2 el => ?_) (fun hlt => ?_) rfl rfl (by omega) (by have := PWk_672 (w := w) hg (show 128 * A + o ≤ 128 * (4 * 2 ^ g) by omega); omega)
      · have hn : ¬ wideP (4 * 2 ^ g) (g + 2) w A o := fun hw => by
          have e := PWk_t (g := g) (w := w) (x := 128 * A + o) (by rw [hd.1, hd.2]; exact hw)
          rw [e] at h672
          have h672 : (PWk g w (128 * A + o)).1 + 1 ≤ 672 := h672
          omega
        have e := PWk_f (g := g) (w := w) (x := 128 * A + o) (by rw [hd.1, hd.2]; exact hn)
        have := hrec a b o2 l2 (by rw [e]; exact h5) eo el
        rw [e] at this
        exact this
      · refine g_cisWide hg h3 hS hA ho (fun hw => ⟨fun q => absurd q (by decide), fun _ => ?_⟩) (fun hw => ⟨fun _ o2 eo l2 el => ?_, fun q => absurd rfl q⟩)
        · have e := PWk_t (g := g) (w := w) (x := 128 * A + o) (by rw [hd.1, hd.2]; exact hw)
          have hv : vp_in (nI (PWk g w (128 * A + o)).1) 672 := pk_in (PWk g w (128 * A + o)).1 672 hlt
          refine ⟨hv, fun a2 ha => ⟨hv, fun b2 hb f hf o2 eo l2 el => ?_⟩⟩
          rw [nI_clamp (show (PWk g w (128 * A + o)).1 < 2 ^ 31 by omega)] at ha hb
          have := hrec a2 b2 o2 l2 (by rw [e, ha, hb]; exact rowK_ps h5 (by omega)) eo el
          rw [e] at this
          rw [hf, nI_p1]
          exact this
        · have e := PWk_f (g := g) (w := w) (x := 128 * A + o) (by rw [hd.1, hd.2]; exact hw)
          have := hrec a b o2 l2 (by rw [e]; exact h5) eo el
          rw [e] at this
          exact this
  have k1 : ∀ n i a b, i ≤ 4 * 2 ^ g → 4 * 2 ^ g - i < n → rowK (PWk g w (128 * i)) a b → w_X4_collectWide_7 (fun x y z => post x y z) se it (nI (4 * 2 ^ g - 1)) n (nI i) a b (nI (PWk g w (128 * i)).1) := by
    intro n
    induction n with
    | zero => intro i a b h1 h2; omega
    | succ n ih =>
      intro i a b h1 h2 h5
      refine pk_lt (4 * 2 ^ g - 1) i (fun hlt => ?_) (fun hle => g_bitCount (by omega) (fun x4 e4 => ⟨px 7 i i + 1 + 1 + 1, ?_⟩))
      · rw [show i = 4 * 2 ^ g by omega] at h5 ⊢
        exact H a b h5
      · have ei := en4 i (by omega)
        rw [ei.1] at e4
        rw [e4]
        refine k2 _ i (by omega) (fun a' b' hr z hz => ?_) _ 0 (px 7 i i + 1) a b (Nat.zero_and _) (by rw [ei.2.1]; omega) (by omega) (by rw [ei.2.1]; omega) h5
        rw [hz, nI_p1]
        exact ih (i + 1) a' b' (by omega) (by omega) hr
  exact ⟨129, k1 129 0 wA wO (Nat.zero_le _) (by omega) (fun i hi => absurd hi (Nat.not_lt_zero i))⟩
end WIDE
