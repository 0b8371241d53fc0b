theorem nx_and (a b : Nat) : nI a &&& nI b = nI (a &&& b) := by
  apply Int32.toBitVec_inj.1
  show BitVec.ofNat 32 a &&& BitVec.ofNat 32 b = BitVec.ofNat 32 (a &&& b)
  apply BitVec.eq_of_getLsbD_eq
  intro i hi
  simp [hi]
/-! products: masks of asked bits A and of ones O over the points below P -/
theorem bt_clr : ∀ A, A < 128 → ∀ b, b < 7 → nI A &&& (((1 : Int32) <<< (nI b &&& 31)) ^^^ (-1)) = nI (A &&& (127 - 2 ^ b)) := by decide +kernel
theorem bt_tst : ∀ A, A < 128 → ∀ b, b < 7 → (((nI A >>> (nI b &&& 31)) &&& (1 : Int32)) = 0 ↔ A.testBit b = false) := by decide +kernel
theorem bt_sub : ∀ A, A < 128 → ∀ O, O < 128 → ((nI O &&& (nI A ^^^ (-1))) = 0 ↔ O &&& A = O) := by decide +kernel
theorem bt_lt : ∀ A, A < 128 → ∀ b, b < 7 → A.testBit b = true → A &&& (127 - 2 ^ b) < A := by decide +kernel
theorem bt_or : ∀ p, p < 128 → ∀ b, b < 7 → nI p ||| ((1 : Int32) <<< (nI b &&& 31)) = nI (p ||| 2 ^ b) := by decide +kernel
def clean (P : Nat) (w : Nat → Int32) (A O : Nat) : Prop := ∀ x, x < P → w x = 0 → ¬ (x &&& A = O)
def hasOneP (P : Nat) (w : Nat → Int32) (A O : Nat) : Prop := ∃ x, x < P ∧ w x = 1 ∧ x &&& A = O
def wideP (P nb : Nat) (w : Nat → Int32) (A O : Nat) : Prop := O &&& A = O ∧ hasOneP P w A O ∧ clean P w A O ∧ ∀ b, b < nb → A.testBit b = true → ¬ clean P w (A &&& (127 - 2 ^ b)) (O &&& (127 - 2 ^ b))
theorem s_has {post : Int32 → Prop} {A O x : Nat} (hA : A < 128) (hO : O < 128) (hx : x < 128) (H1 : x &&& A = O → post 1) (H0 : ¬ x &&& A = O → post 0) : wp_X10_has post (nI A) (nI O) (nI x) := by
  unfold wp_X10_has
  rw [nx_and]
  have : x &&& A ≤ x := Nat.and_le_left
  exact pk_eq (x &&& A) O H1 H0
theorem s_isClean {post : Int32 → Prop} {w : Nat → Int32} {g A O : Nat} (hg : g ≤ 5) (hA : A < 128) (hO : O < 128) (H1 : clean (4 * 2 ^ g) w A O → post 1) (H0 : ¬ clean (4 * 2 ^ g) w A O → post 0) : wp_X10_isClean post (nI g) w (nI A) (nI O) := by
  have hq := p4_le hg
  have k0 : ∀ n i, ¬ clean (4 * 2 ^ g) w A O → w_X10_isClean_5 (fun (x : Int32) => (narrow .boolean (.int x) = .int x ∧ post x)) (nI g) w (nI A) (nI O) (n + 1) 0 (nI i) := fun n i h => by
    rw [w_X10_isClean_5]
    exact s_points hg ⟨fun _ => ⟨bz0, H0 h⟩, fun _ => ⟨fun _ => ⟨bz0, H0 h⟩, fun q => absurd rfl q⟩⟩
  have k1 : ∀ n i, i ≤ 4 * 2 ^ g → 4 * 2 ^ g - i < n → (∀ x, x < i → w x = 0 → ¬ (x &&& A = O)) → w_X10_isClean_5 (fun (x : Int32) => (narrow .boolean (.int x) = .int x ∧ post x)) (nI g) w (nI A) (nI O) (n + 1) 1 (nI i) := by
    intro n
    induction n with
    | zero => intro i h1 h2; omega
    | succ n ih =>
      intro i h1 h2 h3
      rw [w_X10_isClean_5]
      refine s_points hg (pk_le (4 * 2 ^ g) i (fun hle => ⟨bz1, H1 (fun x hx => h3 x (by omega))⟩) (fun hlt => ⟨fun q => absurd q (by decide), fun _ => ⟨pk_in i 128 (by omega), ?_⟩⟩))
      rw [nI_clamp (show i < 2 ^ 31 by omega)]
      refine ⟨fun hw0 => s_has hA hO (by omega) (fun e => ⟨fun q => absurd q (by decide), fun _ b hb => ?_⟩) (fun e => ⟨fun _ b hb => ?_, fun q => absurd rfl q⟩), fun hw0 b hb => ?_⟩
      · rw [hb, nI_p1]
        exact k0 n (i + 1) (fun hc => hc i hlt hw0 e)
      · rw [hb, nI_p1]
        refine ih (i + 1) (by omega) (by omega) (fun x hx hx0 => ?_)
        by_cases ex : x = i
        · rw [ex]; exact e
        · exact h3 x (by omega) hx0
      · rw [hb, nI_p1]
        refine ih (i + 1) (by omega) (by omega) (fun x hx hx0 => ?_)
        by_cases ex : x = i
        · rw [ex] at hx0; exact absurd hx0 hw0
        · exact h3 x (by omega) hx0
  exact ⟨130, k1 129 0 (Nat.zero_le _) (by omega) (fun x hx => absurd hx (by omega))⟩
theorem s_hasOne {post : Int32 → Prop} {w : Nat → Int32} {g A O : Nat} (hg : g ≤ 5) (hA : A < 128) (hO : O < 128) (H1 : hasOneP (4 * 2 ^ g) w A O → post 1) (H0 : ¬ hasOneP (4 * 2 ^ g) w A O → post 0) : wp_X10_hasOne post (nI g) w (nI A) (nI O) := by
  have hq := p4_le hg
  have k0 : ∀ n i, hasOneP (4 * 2 ^ g) w A O → w_X10_hasOne_5 (fun (x : Int32) => (narrow .boolean (.int x) = .int x ∧ post x)) (nI g) w (nI A) (nI O) (n + 1) 1 (nI i) := fun n i h => by
    rw [w_X10_hasOne_5]
    exact s_points hg ⟨fun _ => ⟨bz1, H1 h⟩, fun _ => ⟨fun q => absurd q (by decide), fun _ => ⟨bz1, H1 h⟩⟩⟩
  have k1 : ∀ n i, i ≤ 4 * 2 ^ g → 4 * 2 ^ g - i < n → (∀ x, x < i → w x = 1 → ¬ (x &&& A = O)) → w_X10_hasOne_5 (fun (x : Int32) => (narrow .boolean (.int x) = .int x ∧ post x)) (nI g) w (nI A) (nI O) (n + 1) 0 (nI i) := by
    intro n
    induction n with
    | zero => intro i h1 h2; omega
    | succ n ih =>
      intro i h1 h2 h3
      rw [w_X10_hasOne_5]
      refine s_points hg (pk_le (4 * 2 ^ g) i (fun hle => ⟨bz0, H0 (fun ⟨x, hx, hx1, hx2⟩ => h3 x (by omega) hx1 hx2)⟩) (fun hlt => ⟨fun _ => ⟨pk_in i 128 (by omega), ?_⟩, fun q => absurd rfl q⟩))
      rw [nI_clamp (show i < 2 ^ 31 by omega)]
      refine ⟨fun hw0 => s_has hA hO (by omega) (fun e => ⟨fun q => absurd q (by decide), fun _ b hb => ?_⟩) (fun e => ⟨fun _ b hb => ?_, fun q => absurd rfl q⟩), fun hw0 b hb => ?_⟩
      · rw [hb, nI_p1]
        exact k0 n (i + 1) ⟨i, hlt, hw0, e⟩
      · rw [hb, nI_p1]
        refine ih (i + 1) (by omega) (by omega) (fun x hx hx0 => ?_)
        by_cases ex : x = i
        · rw [ex]; exact e
        · exact h3 x (by omega) hx0
      · rw [hb, nI_p1]
        refine ih (i + 1) (by omega) (by omega) (fun x hx hx0 => ?_)
        by_cases ex : x = i
        · rw [ex] at hx0; exact absurd hx0 hw0
        · exact h3 x (by omega) hx0
  exact ⟨130, k1 129 0 (Nat.zero_le _) (by omega) (fun x hx => absurd hx (by omega))⟩
theorem s_isWide {post : Int32 → Prop} {w : Nat → Int32} {g A O : Nat} (hg : g ≤ 5) (hA : A < 128) (hO : O < 128) (H1 : wideP (4 * 2 ^ g) (g + 2) w A O → post 1) (H0 : ¬ wideP (4 * 2 ^ g) (g + 2) w A O → post 0) : wp_X10_isWide post (nI g) w (nI A) (nI O) := by
  have e2 : nI g + (2 : Int32) = nI (g + 2) := by rw [show (2 : Int32) = nI 2 from rfl, nI_add]
  have k0 : ∀ n i, ¬ wideP (4 * 2 ^ g) (g + 2) w A O → w_X10_isWide_35 (fun (x : Int32) => (narrow .boolean (.int x) = .int x ∧ post x)) (nI g) w (nI A) (nI O) (n + 1) 0 (nI i) := fun n i h => ⟨fun _ => ⟨bz0, H0 h⟩, fun _ => ⟨fun _ => ⟨bz0, H0 h⟩, fun q => absurd rfl q⟩⟩
  have k1 : O &&& A = O → hasOneP (4 * 2 ^ g) w A O → clean (4 * 2 ^ g) w A O → ∀ n i, i ≤ g + 2 → g + 2 - i < n → (∀ b, b < i → A.testBit b = true → ¬ clean (4 * 2 ^ g) w (A &&& (127 - 2 ^ b)) (O &&& (127 - 2 ^ b))) → w_X10_isWide_35 (fun (x : Int32) => (narrow .boolean (.int x) = .int x ∧ post x)) (nI g) w (nI A) (nI O) (n + 1) 1 (nI i) := by
    intro c1 c2 c3 n
    induction n with
    | zero => intro i h1 h2; omega
    | succ n ih =>
      intro i h1 h2 h3
      refine pk_le (g + 2) i (fun hle => ⟨bz1, H1 ⟨c1, c2, c3, fun b hb => h3 b (by omega)⟩⟩) (fun hlt => ⟨fun q => absurd q (by decide), fun _ => ?_⟩) e2 rfl
      rw [bt_tst A hA i (by omega), bt_clr A hA i (by omega), bt_clr O hO i (by omega)]
      have hA2 : A &&& (127 - 2 ^ i) ≤ A := Nat.and_le_left
      have hO2 : O &&& (127 - 2 ^ i) ≤ O := Nat.and_le_left
      refine ⟨fun ht b hb => ?_, fun ht => s_isClean hg (by omega) (by omega) (fun hc => ⟨fun q => absurd q (by decide), fun _ b hb => ?_⟩) (fun hc => ⟨fun _ b hb => ?_, fun q => absurd rfl q⟩)⟩
      · rw [hb, nI_p1]
        refine ih (i + 1) (by omega) (by omega) (fun x hx hx0 => ?_)
        by_cases ex : x = i
        · rw [ex, ht] at hx0; cases hx0
        · exact h3 x (by omega) hx0
      · rw [hb, nI_p1]
        exact k0 n (i + 1) (fun hw => hw.2.2.2 i hlt (by simpa using ht) hc)
      · rw [hb, nI_p1]
        refine ih (i + 1) (by omega) (by omega) (fun x hx hx0 => ?_)
        by_cases ex : x = i
        · rw [ex]; exact hc
        · exact h3 x (by omega) hx0
  unfold wp_X10_isWide
  rw [bt_sub A hA O hO]
  refine ⟨fun c1 => s_hasOne hg hA hO (fun c2 => ⟨fun q => absurd q (by decide), fun _ => s_isClean hg hA hO (fun c3 => ⟨fun q => absurd q (by decide), fun _ => ⟨10, k1 c1 c2 c3 9 0 (by omega) (by omega) (fun b hb => absurd hb (by omega))⟩⟩) (fun c3 => ⟨fun _ => ⟨10, k0 9 0 (fun hw => c3 hw.2.2.1)⟩, fun q => absurd rfl q⟩)⟩) (fun c2 => ⟨fun _ => ⟨10, k0 9 0 (fun hw => c2 hw.2.1)⟩, fun q => absurd rfl q⟩), fun c1 => ⟨10, k0 9 0 (fun hw => c1 hw.1)⟩⟩
/-- how many products there are below -/
def csub (A : Nat) : Nat → Nat
  | 0 => 0
  | n + 1 => csub A n + (if n &&& A = n then 1 else 0)
def ctot : Nat → Nat
  | 0 => 0
  | A + 1 => ctot A + csub A (A + 1)
theorem csub_mono (A : Nat) {i j : Nat} (h : i ≤ j) : csub A i ≤ csub A j := by
  induction j with
  | zero => have : i = 0 := by omega
            subst this; exact Nat.le_refl _
  | succ j ih =>
    by_cases e : i = j + 1
    · subst e; exact Nat.le_refl _
    · have := ih (by omega)
      rw [csub]
      omega
theorem ctot_mono {i j : Nat} (h : i ≤ j) : ctot i ≤ ctot j := by
  induction j with
  | zero => have : i = 0 := by omega
            subst this; exact Nat.le_refl _
  | succ j ih =>
    by_cases e : i = j + 1
    · subst e; exact Nat.le_refl _
    · have := ih (by omega)
      rw [ctot]
      omega
theorem ctot_128 : ctot 128 = 2187 := by decide +kernel
/-- the list of wide products has all of them -/
def listed (wd : Nat) (wA wO : Nat → Int32) (A O : Nat) : Prop := ∃ k, k < wd ∧ wA k = nI A ∧ wO k = nI O
theorem listed_up {wd : Nat} {wA wO : Nat → Int32} {A O : Nat} (x y : Int32) (h : listed wd wA wO A O) : listed (wd + 1) (upd wA wd x) (upd wO wd y) A O := by
  obtain ⟨k, h1, h2, h3⟩ := h
  exact ⟨k, by omega, by rw [pk_un (by omega)]; exact h2, by rw [pk_un (by omega)]; exact h3⟩
theorem s_layWide {post : Int32 → (Nat → Int32) → (Nat → Int32) → Prop} {w wA wO : Nat → Int32} {g : Nat} {wd0 : Int32} (hg : g ≤ 5) (H : ∀ wd wA' wO', wd ≤ 2187 → (∀ A O, A < 4 * 2 ^ g → O ≤ A → wideP (4 * 2 ^ g) (g + 2) w A O → listed wd wA' wO' A O) → post (nI wd) wA' wO') : wp_X10_layWide post (nI g) w wd0 wA wO := by
  have hq := p4_le hg
  have k2 : ∀ (KE : Int32 → (Nat → Int32) → (Nat → Int32) → Prop) (A : Nat), A < 128 → (∀ wd a b, wd ≤ ctot (A + 1) → (∀ A' O, A' < A + 1 → O ≤ A' → wideP (4 * 2 ^ g) (g + 2) w A' O → listed wd a b A' O) → KE (nI wd) a b) →
      ∀ n i wd a b, i ≤ A + 1 → A + 1 - i < n → wd ≤ ctot A + csub A i → (∀ A' O, A' < A → O ≤ A' → wideP (4 * 2 ^ g) (g + 2) w A' O → listed wd a b A' O) → (∀ O, O < i → wideP (4 * 2 ^ g) (g + 2) w A O → listed wd a b A O) → w_X10_layWide_17 KE (nI g) w (nI A) n (nI i) (nI wd) a b := by
    intro KE A hA hKE n
    induction n with
    | zero => intro i wd a b h1 h2; omega
    | succ n ih =>
      intro i wd a b h1 h2 h3 h4 h5
      refine pk_lt A i (fun hlt => hKE wd a b ?_ (fun A' O hA' hO hw => ?_)) (fun hle => ?_)
      · have e : i = A + 1 := by omega
        rw [e] at h3
        exact h3
      · by_cases e : A' = A
        · subst e; exact h5 O (by omega) hw
        · exact h4 A' O (by omega) hO hw
      · refine s_isWide hg hA (by omega) (fun hw => ⟨fun q => absurd q (by decide), fun _ => ?_⟩) (fun hw => ⟨fun _ z hz => ?_, fun q => absurd rfl q⟩)
        · have c1 : csub A (i + 1) = csub A i + 1 := by rw [csub, if_pos hw.1]
          have c2 : csub A (i + 1) ≤ csub A (A + 1) := csub_mono A (by omega)
          have c3 : ctot (A + 1) ≤ ctot 128 := ctot_mono (by omega)
          rw [ctot, ctot_128] at c3
          have hv : vp_in (nI wd) 2187 := pk_in wd 2187 (by omega)
          refine ⟨hv, fun a2 ha => ⟨hv, fun b2 hb f hf z hz => ?_⟩⟩
          rw [nI_clamp (show wd < 2 ^ 31 by omega)] at ha hb
          rw [hf, hz, nI_p1, nI_p1, ha, hb]
          refine ih (i + 1) (wd + 1) _ _ (by omega) (by omega) (by omega) (fun A' O hA' hO hw' => listed_up _ _ (h4 A' O hA' hO hw')) (fun O hO hw' => ?_)
          by_cases e : O = i
          · subst e
            exact ⟨wd, by omega, pk_us, pk_us⟩
          · exact listed_up _ _ (h5 O (by omega) hw')
        · rw [hz, nI_p1]
          refine ih (i + 1) wd a b (by omega) (by omega) (by rw [csub]; omega) h4 (fun O hO hw' => ?_)
          by_cases e : O = i
          · subst e; exact absurd hw' hw
          · exact h5 O (by omega) hw'
  have k1 : ∀ n i wd a b, i ≤ 4 * 2 ^ g → 4 * 2 ^ g - i < n → wd ≤ ctot i → (∀ A' O, A' < i → O ≤ A' → wideP (4 * 2 ^ g) (g + 2) w A' O → listed wd a b A' O) → w_X10_layWide_7 (fun x y z => post x y z) (nI g) w n (nI i) (nI wd) a b := by
    intro n
    induction n with
    | zero => intro i wd a b h1 h2; omega
    | succ n ih =>
      intro i wd a b h1 h2 h3 h4
      have c3 : ctot i ≤ ctot 128 := ctot_mono (by omega)
      rw [ctot_128] at c3
      rw [w_X10_layWide_7]
      refine s_points hg (pk_le (4 * 2 ^ g) i (fun hle => H wd a b (by omega) (fun A O hA => h4 A O (by omega))) (fun hlt => ⟨i + 2, k2 _ i (by omega) (fun wd' a' b' hw hl z hz => ?_) (i + 2) 0 wd a b (by omega) (by omega) (by rw [csub]; omega) h4 (fun O hO => absurd hO (by omega))⟩))
      rw [hz, nI_p1]
      exact ih (i + 1) wd' a' b' (by omega) (by omega) hw hl
  exact ⟨129, k1 129 0 0 wA wO (Nat.zero_le _) (by omega) (Nat.zero_le _) (fun A O hA => absurd hA (by omega))⟩
