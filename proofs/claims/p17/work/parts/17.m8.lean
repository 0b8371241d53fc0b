theorem lv1_gmx {v : Nat → Nat} {i n : Nat} (h : i < n) : lv1 (v i) ≤ gmx v n := by
  induction n with
  | zero => omega
  | succ n ih =>
    rw [gmx]
    unfold mx
    by_cases e : i = n
    · subst e; split <;> omega
    · have := ih (by omega)
      split <;> omega
/-- the page is a table -/
def tabOK (v : Nat → Nat) (len : Nat) : Prop := ∃ r c, FR v len len r c c ∧ 0 < r ∧ gmx v len ≤ r + 1
theorem stv_in {w n : Nat} (h : lv1 w ≤ n) : stv w = -1 ∨ ∃ t, t < n ∧ stv w = nI t := by
  unfold stv gI
  by_cases e : lv1 w = 0
  · rw [if_pos e]; exact Or.inl rfl
  · rw [if_neg e]; exact Or.inr ⟨lv1 w - 1, by omega, rfl⟩
theorem rd_tab {v : Nat → Nat} {r c : Nat} {na en : Nat → Int32} (hr : r ≤ 5) (hc : c ≤ 4) (h : rdM v r c c na) (hg : gmx v (r * (c + 1) + c) ≤ r + 1) (he : ∀ k, k < 4 * (r + 1) → en k = na k) : tabM (r + 1) c en := by
  refine ⟨by omega, hc, fun s k hs hk => ?_⟩
  rw [he _ (by omega), h s k (by omega)]
  refine stv_in (Nat.le_trans (lv1_gmx ?_) hg)
  have : s * (c + 1) ≤ r * (c + 1) := Nat.mul_le_mul_right _ (by omega)
  omega
theorem s_letter {post : Int32 → Int32 → (Nat → Int32) → Prop} {pg : Nat → Int32} {pl : Nat} {x1 : Int32} (hl : pl ≤ 40) (H0 : ¬ (pl < 40 ∧ ∃ w, 32 ≤ w ∧ w ≤ 126 ∧ x1 = nI w) → ∀ r, post r (nI pl) pg) (H1 : ∀ w, pl < 40 → 32 ≤ w → w ≤ 126 → x1 = nI w → post (nI (pl + 1)) (nI (pl + 1)) (upd pg pl x1)) : wp_X10_letter post (nI pl) pg x1 := by
  refine s_within (fun a => ⟨fun _ => H0 ?_ _, fun q => absurd rfl q⟩) (fun a => ⟨fun _ => H0 ?_ _, fun q => absurd rfl q⟩) (fun a b => ⟨fun q => absurd q (by decide), fun _ => pk_eq pl 40 (fun h => H0 ?_ _) (fun h => ⟨pk_in pl 40 (by omega), fun g hg f hf => ?_⟩)⟩)
  · rintro ⟨_, w, h1, h2, e⟩
    rw [e, show (32 : Int32) = nI 32 from rfl, nI_ltI (by omega) (by omega)] at a
    omega
  · rintro ⟨_, w, h1, h2, e⟩
    rw [e, show (126 : Int32) = nI 126 from rfl, nI_ltI (by omega) (by omega)] at a
    omega
  · rintro ⟨h1, _⟩
    omega
  · have h0 : ¬ x1 < 0 := fun q => a (by
      rw [Int32.lt_iff_toInt_lt] at q ⊢
      have e1 : (0 : Int32).toInt = 0 := by decide
      have e2 : (32 : Int32).toInt = 32 := by decide
      omega)
    obtain ⟨w, hw, e⟩ := nI_of h0
    rw [e, show (32 : Int32) = nI 32 from rfl, nI_ltI (by omega) (by omega)] at a
    rw [e, show (126 : Int32) = nI 126 from rfl, nI_ltI (by omega) (by omega)] at b
    rw [hf, nI_p1, hg, nI_clamp (show pl < 2 ^ 31 by omega)]
    exact H1 w (by omega) (by omega) (by omega) e
theorem s_table {post : Int32 → Int32 → Int32 → Int32 → (Nat → Int32) → Int32 → (Nat → Int32) → Int32 → Int32 → Int32 → Int32 → Int32 → Int32 → Int32 → Int32 → (Nat → Int32) → Int32 → (Nat → Int32) → (Nat → Int32) → Int32 → (Nat → Int32) → (Nat → Int32) → (Nat → Int64) → (Nat → Int64) → Int32 → Prop}
    {pg en sg na lo hi la tr : Nat → Int32} {kl kh : Nat → Int64} {v : Nat → Nat} {pl st co g pn : Nat} {wa tu ch rd nr ne nc gr lm ld : Int32} (hl : pl ≤ 40) (hv : ∀ i, i < pl → pg i = nI (v i) ∧ v i < 128)
    (hT : tabM st co en) (hg : g ≤ 5) (hw : wkM st wa) (hp : pn ≤ 75) (hm : lmM lm)
    (H : ∀ r pl' st' co' en' g' sg' wa' tu' ch' rd' nr' ne' nc' gr' na' pn' lo' hi' lm' la' tr' kl' kh' ld', (tabOK v pl → pl' = 0) → (¬ tabOK v pl → pl' = pl) → tabM st' co' en' → g' ≤ 5 → wkM st' wa' → pn' ≤ 75 → lmM lm' →
      post r (nI pl') (nI st') (nI co') en' (nI g') sg' wa' tu' ch' rd' nr' ne' nc' gr' na' (nI pn') lo' hi' lm' la' tr' kl' kh' ld') : wp_X10_table post (nI pl) pg (nI st) (nI co) en (nI g) sg wa tu ch rd nr ne nc gr na (nI pn) lo hi lm la tr kl kh ld := by
  refine s_readPage hl hv (fun f r e c na' hF hI hR hf => ?_)
  have gle := gmx_le v f
  have J0 : ¬ tabOK v pl → ∀ gr na', j_X10_table_45 post (nI pl) (nI st) (nI co) en (nI g) sg wa tu ch rd (nI r) (nI e) (nI c) gr na' (nI pn) lo hi lm la tr kl kh ld 0 := fun hn gr na' => ⟨fun _ => H _ _ _ _ _ _ _ _ _ _ _ _ _ _ _ _ _ _ _ _ _ _ _ _ _ (fun q => absurd q hn) (fun _ => rfl) hT hg hw hp hm, fun q => absurd rfl q⟩
  obtain ⟨i1, i2, i3, i4, i5⟩ := hI
  have hFl := hF.1
  refine pk_eq f pl (fun e1 => pk_le r 0 (fun h => J0 ?_ _ _) (fun h0 => pk_eq e c (fun ec => ?_) (fun h => J0 ?_ _ _))) (fun h => J0 ?_ _ _)
  · rintro ⟨r', c', hF', h2, h3⟩
    have := FR_eq hF hF'
    omega
  · subst e1
    subst ec
    rw [nlt_gI (by omega) (by omega)]
    refine ⟨fun h => J0 ?_ _ _, fun h => ?_⟩
    · rintro ⟨r', c', hF', h2, h3⟩
      have := FR_eq hF hF'
      omega
    have ok : tabOK v f := ⟨r, e, hF, h0, by omega⟩
    refine ⟨fun q => absurd q (by decide), fun _ s hs => ?_⟩
    rw [hs, nI_p1]
    have k1 : ∀ n i en', i ≤ 4 * (r + 1) → 4 * (r + 1) - i < n → (∀ k, k < i → en' k = na' k) → ∀ KE : (Nat → Int32) → Prop, (∀ en', (∀ k, k < 4 * (r + 1) → en' k = na' k) → KE en') → w_X10_table_74 KE (nI (r + 1)) na' n (nI i) en' := by
      intro n
      induction n with
      | zero => intro i en' h1 h2; omega
      | succ n ih =>
        intro i en' h1 h2 h3 KE hK
        refine pk_le (4 * (r + 1)) i (fun hle => hK en' (fun k hk => h3 k (by omega))) (fun hlt => ⟨pk_in i 24 (by omega), pk_in i 24 (by omega), fun a ha z hz => ?_⟩) (by rw [show (4 : Int32) = nI 4 from rfl, pk_mul]) rfl
        rw [nI_clamp (show i < 2 ^ 31 by omega)] at ha
        rw [hz, nI_p1 i]
        refine ih (i + 1) a (by omega) (by omega) (fun k hk => ?_) KE hK
        by_cases ek : k = i
        · rw [ha, ek, pk_us]
        · rw [ha, pk_un ek]; exact h3 k (by omega)
    refine ⟨26, k1 26 0 en (by omega) (by omega) (fun k hk => absurd hk (by omega)) _ (fun en' hen f2 hf2 => ?_)⟩
    have hT' : tabM (r + 1) e en' := rd_tab i1 i3 hR (by rw [← hf]; omega) hen
    refine s_layPartings hT' (fun pn' lo' hi' hp' => s_layLeast hT' hp' (fun m la' tr' kl' kh' hm' => ?_))
    have hlm : lmM m := by
      rcases hm' with q | ⟨k, _, q2, q3⟩
      · exact Or.inl q
      · exact Or.inr ⟨k, q2, q3⟩
    have fin : ∀ g' sg' ld', g' ≤ 5 → post (nI (r + 1)) (0 : Int32) (nI (r + 1)) (nI e) en' (nI g') sg' (-1) 0 0 f2 (nI r) (nI e) (nI e) (gI (gmx v f)) na' (nI pn') lo' hi' m la' tr' kl' kh' ld' := fun g' sg' ld' hg' => H _ 0 _ _ _ _ _ _ _ _ _ _ _ _ _ _ _ _ _ _ _ _ _ _ _ (fun _ => rfl) (fun q => absurd ok q) hT' hg' (Or.inl rfl) hp' hlm
    rcases hlm with q | ⟨k, hk, q⟩
    · rw [q] at fin ⊢
      exact ⟨1, ⟨fun _ => ⟨fun q2 => absurd q2 (by decide), fun _ => fin 0 _ _ (by omega)⟩, fun q2 => absurd (by decide) q2⟩⟩
    · rw [q] at fin ⊢
      have k2 : ∀ n i sg', i ≤ k → k - i < n → w_X10_table_147 (fun (ysignalAt_17 : Nat → Int32) => ((0 ≤ nI k → (wp_X10_altered (fun (ylaid_19 : Int32) => post (nI (r + 1)) (0 : Int32) (nI (r + 1)) (nI e) en' (nI k) ysignalAt_17 ((-1) : Int32) (0 : Int32) (0 : Int32) f2 (nI r) (nI e) (nI e) (gI (gmx v f)) na' (nI pn') lo' hi' (nI k) la' tr' kl' kh' ylaid_19) ld)) ∧ (¬ 0 ≤ nI k → (wp_X10_altered (fun (ylaid_20 : Int32) => post (nI (r + 1)) (0 : Int32) (nI (r + 1)) (nI e) en' (0 : Int32) ysignalAt_17 ((-1) : Int32) (0 : Int32) (0 : Int32) f2 (nI r) (nI e) (nI e) (gI (gmx v f)) na' (nI pn') lo' hi' (nI k) la' tr' kl' kh' ylaid_20) ld)))) (nI k) la' n (nI i) sg' := by
        intro n
        induction n with
        | zero => intro i sg' h1 h2; omega
        | succ n ih =>
          intro i sg' h1 h2
          refine pk_le k i (fun _ => ⟨fun _ => fin k _ _ hk, fun q2 => absurd (nI_pos' (by omega)) q2⟩) (fun hlt => ⟨pk_in i 5 (by omega), pk_in i 5 (by omega), fun a _ z hz => ?_⟩)
          rw [hz, nI_p1 i]
          exact ih (i + 1) a (by omega) (by omega)
      exact ⟨k + 1, k2 (k + 1) 0 sg (by omega) (by omega)⟩
  · rintro ⟨r', c', hF', h2, h3⟩
    have := FR_eq hF hF'
    omega
  · rintro ⟨r', c', hF', h2, h3⟩
    have := FR_eq hF hF'
    omega
