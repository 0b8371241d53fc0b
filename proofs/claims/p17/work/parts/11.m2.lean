theorem sh1 : ∀ k, k < 8 → (1 : Int32) <<< (nI k &&& 31) = nI (2 ^ k) := by decide +kernel
theorem sh4 : ∀ k, k < 6 → (4 : Int32) <<< (nI k &&& 31) = nI (4 * 2 ^ k) := by decide +kernel
theorem p2_le : ∀ k, k < 8 → 2 ^ k ≤ 128 := by decide
theorem p2_6 {k : Nat} (h : k ≤ 6) : 2 ^ k ≤ 64 := by
  have : ∀ k, k < 7 → 2 ^ k ≤ 64 := by decide
  exact this k (by omega)
theorem p2_5 {k : Nat} (h : k ≤ 5) : 2 ^ k ≤ 32 := by
  have : ∀ k, k < 6 → 2 ^ k ≤ 32 := by decide
  exact this k (by omega)
theorem s_codeOf {post : Int32 → Prop} {sg : Nat → Int32} {g : Nat} {x1 : Int32} (hg : g ≤ 5) (H : ∀ r, post r) : wp_X10_codeOf post (nI g) sg x1 := by
  have key : ∀ n i x2, i ≤ g → g - i < n → w_X10_codeOf_4 (fun x => post x) (nI g) sg x1 n x2 (nI i) := by
    intro n
    induction n with
    | zero => intro i x1 h1 h2; omega
    | succ n ih =>
      intro i x2 h1 h2
      refine pk_le g i (fun _ => H _) (fun h => ⟨pk_in i 5 (by omega), fun a _ b hb => ?_⟩)
      rw [hb, nI_p1]
      exact ih (i + 1) a (by omega) (by omega)
  exact ⟨6, key 6 0 0 (by omega) (by omega)⟩
theorem s_keptBy {post : Int32 → Prop} {sg lo hi : Nat → Int32} {g p : Nat} (hg : g ≤ 5) (hp : p < 80) (H : ∀ r, post r) : wp_X10_keptBy post (nI g) sg lo hi (nI p) := by
  have hv : vp_in (nI p) 80 := pk_in p 80 hp
  have key : ∀ n i x2, i ≤ g → g - i < n → w_X10_keptBy_4 (fun x => post x) (nI g) sg lo hi (nI p) n x2 (nI i) := by
    intro n
    induction n with
    | zero => intro i x1 h1 h2; omega
    | succ n ih =>
      intro i x2 h1 h2
      refine pk_le g i (fun _ => H _) (fun h => ?_)
      have hrec : ∀ (z a b : Int32), a = z → b = nI i + 1 → w_X10_keptBy_4 (fun x => post x) (nI g) sg lo hi (nI p) n a b := fun z a b _ hb => by rw [hb, nI_p1]; exact ih (i + 1) a (by omega) (by omega)
      exact ⟨pk_in i 5 (by omega), hv, hv, s_keeps (fun r => ⟨fun _ a ha b => hrec _ a b ha, fun _ a ha b => hrec _ a b ha⟩)⟩
  exact ⟨6, key 6 0 0 (by omega) (by omega)⟩
theorem s_partingNow {post : Int32 → Prop} {sg lo hi : Nat → Int32} {g p : Nat} {x2 : Int32} (hg : g ≤ 5) (hp : p < 80) (H : ∀ r, post r) : wp_X10_partingNow post (nI g) sg lo hi (nI p) x2 :=
  ⟨fun _ => ⟨pk_in p 80 hp, H _⟩, fun _ => ⟨fun _ => ⟨pk_in p 80 hp, H _⟩, fun _ => s_keptBy hg hp (fun _ => H _)⟩⟩
theorem s_parting {post : Int32 → Prop} {en sg lo hi : Nat → Int32} {st co g pn : Nat} {x1 x2 : Int32} (hT : tabM st co en) (hg : g ≤ 5) (hp : pn ≤ 75) (H : ∀ r, post r) : wp_X10_parting post (nI st) (nI co) en (nI g) sg (nI pn) lo hi x1 x2 := by
  refine s_withinA (fun r => ⟨fun _ => H _, fun _ => s_isNormal hT ⟨fun _ => H _, fun q => absurd rfl q⟩ (fun _ => ⟨fun _ => H _, fun _ => ?_⟩)⟩)
  refine s_in0 (n := pn) (by omega) ⟨fun _ => H _, fun q => absurd rfl q⟩ (fun j hj hx => ⟨fun _ => H _, fun _ => ?_⟩)
  rw [hx]
  exact s_partingNow hg (by omega) (fun _ => H _)
theorem s_addOfColumn {post : Int32 → (Nat → Int32) → (Nat → Int32) → Prop} {en lo hi : Nat → Int32} {st co pn c r s : Nat} (hT : tabM st co en) (hp : pn < 80) (hc : c < co) (hr : r < st) (hs : s < st) (H : ∀ k lo' hi', k ≤ pn + 1 → post (nI k) lo' hi') : wp_X10_addOfColumn post en (nI pn) lo hi (nI c) (nI r) (nI s) :=
  e_entA hT hr hc (fun _ => e_entA hT hs hc (fun _ => ⟨fun _ => H pn _ _ (by omega), fun _ => ⟨fun _ => H pn _ _ (by omega), fun _ => ⟨fun _ => H pn _ _ (by omega), fun _ => s_addParting hp (fun k l h hk => H k l h hk)⟩⟩⟩))
/-- the partings: at most five for each two rows -/
theorem s_layPartings {post : Int32 → (Nat → Int32) → (Nat → Int32) → Prop} {en lo hi : Nat → Int32} {st co : Nat} {pa : Int32} (hT : tabM st co en) (H : ∀ k lo' hi', k ≤ 75 → post (nI k) lo' hi') : wp_X10_layPartings post (nI st) (nI co) en pa lo hi := by
  have h6 := hT.1
  have h4 := hT.2.1
  have k3 : ∀ (KE : Int32 → (Nat → Int32) → (Nat → Int32) → Prop) (r s m : Nat), r < st → s < st → m ≤ 75 → (∀ k l h, k ≤ m → KE (nI k) l h) → ∀ n i k l h, i ≤ co → co - i < n → k + (co - i) ≤ m → w_X10_layPartings_47 KE (nI co) en (nI r) (nI s) n (nI i) (nI k) l h := by
    intro KE r s m hr hs hm hKE n
    induction n with
    | zero => intro i k l h h1 h2; omega
    | succ n ih =>
      intro i k l h h1 h2 h3
      refine pk_le co i (fun _ => hKE k _ _ (by omega)) (fun hlt => s_addOfColumn hT (by omega) hlt hr hs (fun k' l' h' hk b hb => ?_))
      rw [hb, nI_p1]
      exact ih (i + 1) k' l' h' (by omega) (by omega) (by omega)
  have k2 : ∀ (KE : Int32 → (Nat → Int32) → (Nat → Int32) → Prop) (r m : Nat), r < st → m ≤ 75 → (∀ k l h, k ≤ m → KE (nI k) l h) → ∀ n i k l h, i ≤ st → st - i < n → k + 5 * (st - i) ≤ m → w_X10_layPartings_27 KE (nI st) (nI co) en (nI r) n (nI i) (nI k) l h := by
    intro KE r m hr hm hKE n
    induction n with
    | zero => intro i k l h h1 h2; omega
    | succ n ih =>
      intro i k l h h1 h2 h3
      refine pk_le st i (fun _ => hKE k _ _ (by omega)) (fun hlt => s_addParting (by omega) (fun k' l' h' hk => ⟨5, ?_⟩))
      refine k3 _ r i (k + 5) hr hlt (by omega) (fun k2 l2 h2 hk2 b hb => ?_) 5 0 k' l' h' (by omega) (by omega) (by omega)
      rw [hb, nI_p1]
      exact ih (i + 1) k2 l2 h2 (by omega) (by omega) (by omega)
  have k1 : ∀ n i k l h, i ≤ st → st - i < n → k + 5 * ((st - i) * (st - i - 1) / 2) ≤ 75 → w_X10_layPartings_15 (fun a b c => post a b c) (nI st) (nI co) en n (nI i) (nI k) l h := by
    intro n
    induction n with
    | zero => intro i k l h h1 h2; omega
    | succ n ih =>
      intro i k l h h1 h2 h3
      refine pk_le st i (fun _ => H k _ _ (by omega)) (fun hlt b hb => ?_)
      rw [hb, nI_p1]
      obtain ⟨d, hd⟩ : ∃ d, st - i = d + 1 := ⟨st - i - 1, by omega⟩
      have hd6 : d < 6 := by omega
      have e1 : (d + 1) * (d + 1 - 1) / 2 = d + d * (d - 1) / 2 := by
        have : ∀ d, d < 6 → (d + 1) * (d + 1 - 1) / 2 = d + d * (d - 1) / 2 := by decide
        exact this d hd6
      rw [hd, e1] at h3
      refine ⟨7, k2 _ i (75 - 5 * (d * (d - 1) / 2)) hlt (by omega) (fun k' l' h' hk c hc => ?_) 7 (i + 1) k l h (by omega) (by omega) (by omega)⟩
      rw [hc]
      refine ih (i + 1) k' l' h' (by omega) (by omega) ?_
      rw [show st - (i + 1) = d by omega]
      omega
  refine s_isNormal hT ⟨fun _ => H 0 _ _ (by omega), fun q => absurd rfl q⟩ (fun _ => ⟨fun _ => H 0 _ _ (by omega), fun _ => ⟨7, k1 7 0 0 _ _ (by omega) (by omega) ?_⟩⟩)
  have : ∀ s, s < 7 → 0 + 5 * ((s - 0) * (s - 0 - 1) / 2) ≤ 75 := by decide
  exact this st (by omega)
theorem s_layKept {post : (Nat → Int64) → (Nat → Int64) → Prop} {lo hi : Nat → Int32} {kl kh : Nat → Int64} {st pn : Nat} (hs : st ≤ 6) (hp : pn ≤ 75) (H : ∀ a b, post a b) : wp_X10_layKept post (nI st) (nI pn) lo hi kl kh := by
  have hq := p2_6 hs
  have k2 : ∀ (KE : (Nat → Int64) → (Nat → Int64) → Prop) (g : Nat), g < 64 → (∀ a b, KE a b) → ∀ n i a b, i ≤ pn → pn - i < n → w_X10_layKept_28 KE (nI pn) lo hi (nI g) n (nI i) a b := by
    intro KE g hg hKE n
    induction n with
    | zero => intro i a b h1 h2; omega
    | succ n ih =>
      intro i a b h1 h2
      have hv : vp_in (nI g) 64 := pk_in g 64 hg
      refine pk_le pn i (fun _ => hKE _ _) (fun hlt => ⟨pk_in i 80 (by omega), pk_in i 80 (by omega), ?_⟩)
      have J1 : ∀ x3 v0 v1 a b, j_X10_layKept_81 (w_X10_layKept_28 KE (nI pn) lo hi (nI g) n) a b (nI g) (nI i) x3 v0 v1 (nI g) := by
        intro x3 v0 v1 a b
        refine ⟨hv, fun a2 _ => ⟨hv, fun _ => ⟨hv, fun b2 _ z hz => ?_⟩, fun _ => ⟨hv, fun b2 _ z hz => ?_⟩⟩⟩
        · rw [hz, nI_p1]; exact ih (i + 1) _ _ (by omega) (by omega)
        · rw [hz, nI_p1]; exact ih (i + 1) _ _ (by omega) (by omega)
      have J2 : ∀ v0 a b, j_X10_layKept_60 (w_X10_layKept_28 KE (nI pn) lo hi (nI g) n) a b (nI g) (nI i) v0 := fun v0 a b => ⟨hv, fun _ => J1 _ _ _ _ _, fun _ => J1 _ _ _ _ _⟩
      exact s_keeps (fun r => ⟨fun _ => J2 _ _ _, fun _ => J2 _ _ _⟩)
  have k1 : ∀ n i a b, i ≤ 2 ^ st → 2 ^ st - i < n → w_X10_layKept_2 (fun a b => post a b) (nI st) (nI pn) lo hi n (nI i) a b := by
    intro n
    induction n with
    | zero => intro i a b h1 h2; omega
    | succ n ih =>
      intro i a b h1 h2
      refine pk_le (2 ^ st) i (fun _ => H _ _) (fun hlt => ⟨pk_in i 64 (by omega), fun a2 _ => ⟨pk_in i 64 (by omega), fun b2 _ => ⟨76, k2 _ i (by omega) (fun a3 b3 z hz => ?_) 76 0 a2 b2 (by omega) (by omega)⟩⟩⟩) (sh1 st (by omega))
      rw [hz, nI_p1]
      exact ih (i + 1) _ _ (by omega) (by omega)
  exact ⟨65, k1 65 0 _ _ (Nat.zero_le _) (Nat.lt_succ_of_le (Nat.le_trans (Nat.sub_le _ _) hq))⟩
/-- the signals that are tried, as numbers below 64 -/
def tri (m : Nat) (f : Nat → Int32) (v : Nat → Nat) : Prop := ∀ i, i < m → f i = nI (v i) ∧ v i < 64
def enc (v : Nat → Nat) : Nat → Nat
  | 0 => 0
  | k + 1 => enc v k * 64 + v k
theorem enc_eq {v w : Nat → Nat} {m : Nat} (h : ∀ i, i < m → v i = w i) : enc v m = enc w m := by
  induction m with
  | zero => rfl
  | succ m ih => rw [enc, enc, ih (fun i hi => h i (by omega)), h m (by omega)]
theorem enc_lt {v w : Nat → Nat} {a m : Nat} (h1 : ∀ i, i < a → v i = w i) (h2 : v a < w a) (h3 : a < m) (h4 : ∀ i, i < m → v i < 64) : enc v m < enc w m := by
  induction m with
  | zero => omega
  | succ m ih =>
    rw [enc, enc]
    by_cases e : a = m
    · subst e
      rw [enc_eq h1]
      omega
    · have := ih (by omega) (fun i hi => h4 i (by omega))
      have := h4 m (by omega)
      omega
theorem enc_b {v : Nat → Nat} {m : Nat} (h4 : ∀ i, i < m → v i < 64) : enc v m < 64 ^ m := by
  induction m with
  | zero => exact Nat.zero_lt_one
  | succ m ih =>
    have := ih (fun i hi => h4 i (by omega))
    have := h4 m (by omega)
    rw [enc, Nat.pow_succ]
    omega
theorem s_isTriedGood {post : Int32 → Prop} {f : Nat → Int32} {kl kh : Nat → Int64} {m : Nat} {v : Nat → Nat} {pa : Int32} (hm : m ≤ 5) (ht : tri m f v) (H : ∀ r, post r) : wp_X10_isTriedGood post pa f kl kh (nI m) := by
  have J1 : ∀ a b c d, j_X10_isTriedGood_101 post a b c d := fun a b c d => ⟨fun _ => ⟨fun _ => H _, fun _ => H _⟩, fun _ => H _⟩
  have J2 : ∀ a b c, j_X10_isTriedGood_75 post pa a b c := fun a b c => ⟨fun _ => J1 _ _ _ _, fun _ => J1 _ _ _ _⟩
  have key : ∀ n i a b, i ≤ m → m - i < n → w_X10_isTriedGood_8 (fun (x2_9 : Int64) (x4_9 : Int64) => (((40 : Int32) ≤ pa → (j_X10_isTriedGood_75 post pa x2_9 x4_9 (1099511627775 : Int64))) ∧ (¬ (40 : Int32) ≤ pa → (j_X10_isTriedGood_75 post pa x2_9 x4_9 (((1 : Int64) <<< (pa.toInt64 &&& 63)) - (1 : Int64)))))) f kl kh (nI m) n a b (nI i) := by
    intro n
    induction n with
    | zero => intro i a b h1 h2; omega
    | succ n ih =>
      intro i a b h1 h2
      refine pk_le m i (fun _ => ⟨fun _ => J2 _ _ _, fun _ => J2 _ _ _⟩) (fun hlt => ?_)
      obtain ⟨e, hv⟩ := ht i hlt
      rw [nI_clamp (show i < 2 ^ 31 by omega), e]
      have h5 : vp_in (nI i) 5 := pk_in i 5 (by omega)
      have h64 : vp_in (nI (v i)) 64 := pk_in _ 64 hv
      refine ⟨h5, h64, fun a2 _ => ⟨h5, h64, fun b2 _ z hz => ?_⟩⟩
      rw [hz, nI_p1]
      exact ih (i + 1) _ _ (by omega) (by omega)
  exact ⟨6, key 6 0 0 0 (by omega) (by omega)⟩
theorem s_goesOn {post : Int32 → (Nat → Int32) → Prop} {f : Nat → Int32} {st m : Nat} {v : Nat → Nat} (hs : st ≤ 6) (hm0 : 0 < m) (hm : m ≤ 5) (ht : tri m f v) (H0 : post 0 f) (H1 : ∀ f' v', tri m f' v' → enc v m < enc v' m → post 1 f') : wp_X10_goesOn post (nI st) f (nI m) := by
  have hq := p2_6 hs
  -- filling up behind
  have k2 : ∀ (a : Nat), a < m → v a + 2 * (m - a) < 2 ^ st → ∀ n i g, a < i → i ≤ m → m - i < n → (∀ j, j < a → g j = nI (v j)) → (∀ j, a ≤ j → j < i → g j = nI (v a + 2 + 2 * (j - a))) → w_X10_goesOn_55 (fun g => post 1 g) (nI m) n (nI i) g := by
    intro a ha hv n
    induction n with
    | zero => intro i g h1 h2 h3; omega
    | succ n ih =>
      intro i g h1 h2 h3 h4 h5
      refine pk_le m i (fun hle => ?_) (fun hlt => ?_)
      · have him : i = m := by omega
        subst him
        refine H1 g (fun j => if j < a then v j else v a + 2 + 2 * (j - a)) (fun j hj => ?_) (enc_lt (a := a) (fun j hj => by simp [hj]) (by simp) ha (fun j hj => (ht j hj).2))
        by_cases hja : j < a
        · simp only [hja, if_true]
          exact ⟨h4 j hja, (ht j hj).2⟩
        · simp only [hja, if_false]
          exact ⟨h5 j (by omega) hj, by omega⟩
      · obtain ⟨k, rfl⟩ : ∃ k, i = k + 1 := ⟨i - 1, by omega⟩
        rw [nI_pred, nI_clamp (show k < 2 ^ 31 by omega), nI_clamp (show k + 1 < 2 ^ 31 by omega)]
        refine ⟨pk_in k 5 (by omega), pk_in (k + 1) 5 (by omega), fun g2 hg2 z hz => ?_⟩
        rw [hz, nI_p1]
        refine ih (k + 1 + 1) g2 (by omega) (by omega) (by omega) (fun j hj => ?_) (fun j hj1 hj2 => ?_)
        · rw [hg2, pk_un (by omega)]; exact h4 j hj
        · by_cases e : j = k + 1
          · rw [hg2, e, pk_us, h5 k (by omega) (by omega), show (2 : Int32) = nI 2 from rfl, nI_add]
            congr 1
            omega
          · rw [hg2, pk_un e]; exact h5 j hj1 (by omega)
  have J : ∀ a, a < m → v a + 2 * (m - a) < 2 ^ st → j_X10_goesOn_35 post f (nI m) (nI a) := by
    intro a ha hv
    have h5 : vp_in (nI a) 5 := pk_in a 5 (by omega)
    refine ⟨fun _ => ⟨h5, h5, fun g hg z hz => ⟨6, ?_⟩⟩, fun q => absurd (nI_pos' (by omega)) q⟩
    rw [hz, nI_p1]
    rw [nI_clamp (show a < 2 ^ 31 by omega), (ht a ha).1, show (2 : Int32) = nI 2 from rfl, nI_add] at hg
    refine k2 a ha hv 6 (a + 1) g (by omega) (by omega) (by omega) (fun j hj => ?_) (fun j hj1 hj2 => ?_)
    · rw [hg, pk_un (by omega)]; exact (ht j (by omega)).1
    · have e : j = a := by omega
      rw [hg, e, pk_us]
      congr 1
      omega
  have k1 : ∀ n i, i ≤ m → i < n → w_X10_goesOn_4 (fun x => j_X10_goesOn_35 post f (nI m) x) (nI st) f (nI m) n (nI i + (-1)) := by
    intro n
    induction n with
    | zero => intro i h1 h2; omega
    | succ n ih =>
      intro i h1 h2
      cases i with
      | zero =>
        rw [show nI 0 + (-1) = (-1 : Int32) from by decide]
        exact ⟨fun _ => ⟨fun q => absurd q (by decide), fun _ => H0⟩, fun q => absurd (by decide) q⟩
      | succ i =>
        rw [pk_m1]
        refine pk_lt i 0 (fun q => absurd q (by omega)) (fun _ => ⟨pk_in i 5 (by omega), ?_⟩)
        rw [nI_clamp (show i < 2 ^ 31 by omega), (ht i (by omega)).1, pk_sub (by omega), show (2 : Int32) = nI 2 from rfl, pk_mul, nI_add]
        have hvi := (ht i (by omega)).2
        refine pk_lt (v i + 2 * (m - i)) (2 ^ st) (fun hlt => J i (by omega) hlt) (fun _ z hz => ?_) rfl (sh1 st (by omega))
        rw [hz]
        exact ih i (by omega) (by omega)
  intro z hz
  refine ⟨m + 1, ?_⟩
  rw [hz, show nI m - 1 = nI m + (-1) from by obtain ⟨k, rfl⟩ : ∃ k, m = k + 1 := ⟨m - 1, by omega⟩; rw [nI_pred, pk_m1]]
  exact k1 (m + 1) m (by omega) (by omega)
theorem bz0 : narrow .boolean (.int 0) = .int 0 := rfl
theorem bz1 : narrow .boolean (.int 1) = .int 1 := rfl
theorem s_findLeast {post : Int32 → (Nat → Int32) → Prop} {f : Nat → Int32} {kl kh : Nat → Int64} {st m : Nat} {pa : Int32} (hs : st ≤ 6) (hm0 : 0 < m) (hm : m ≤ 5) (H : ∀ r f' v', tri m f' v' → post r f') : wp_X10_findLeast post (nI st) pa f kl kh (nI m) := by
  have k2 : ∀ n g v x, tri m g v → (x = 0 ∨ x = 1) → 64 ^ m - enc v m < n → w_X10_findLeast_40 (fun (x : Int32) (g : Nat → Int32) => (narrow .boolean (.int x) = .int x ∧ post x g)) (nI st) pa kl kh (nI m) n x g := by
    intro n
    induction n with
    | zero => intro g v x h1 h2 h3; omega
    | succ n ih =>
      intro g v x h1 h2 h3
      have hb : narrow .boolean (.int x) = .int x ∧ post x g := ⟨by rcases h2 with e | e <;> rw [e] <;> rfl, H _ _ _ h1⟩
      refine ⟨fun _ => hb, fun _ => s_isTriedGood hm h1 (fun r => ⟨fun _ => ?_, fun _ => hb⟩)⟩
      have hlt := enc_b (fun i hi => (h1 i hi).2)
      -- one that stops needs a step more
      cases n with
      | zero => omega
      | succ n =>
        refine s_goesOn hs hm0 hm h1 ?_ (fun f' v' ht he => ih f' v' 1 ht (Or.inr rfl) ?_)
        · exact ⟨fun _ => ⟨bz0, H _ _ _ h1⟩, fun q => absurd rfl q⟩
        · have := enc_b (fun i hi => (ht i hi).2)
          omega
  have k1 : ∀ n i g, i ≤ m → m - i < n → (∀ j, j < i → g j = nI (2 * j)) → w_X10_findLeast_2 (fun (ytried_4 : Nat → Int32) => ((((1 : Int32) <<< (nI st &&& 31)) < ((2 : Int32) * nI m) → (∃ fu : Nat, w_X10_findLeast_40 (fun (x2_10 : Int32) (ytried_10 : Nat → Int32) => (narrow .boolean (.int x2_10) = .int x2_10 ∧ post x2_10 ytried_10)) (nI st) pa kl kh (nI m) fu (0 : Int32) ytried_4)) ∧ (¬ ((1 : Int32) <<< (nI st &&& 31)) < ((2 : Int32) * nI m) → (∃ fu : Nat, w_X10_findLeast_40 (fun (x2_11 : Int32) (ytried_11 : Nat → Int32) => (narrow .boolean (.int x2_11) = .int x2_11 ∧ post x2_11 ytried_11)) (nI st) pa kl kh (nI m) fu (1 : Int32) ytried_4)))) (nI m) n (nI i) g := by
    intro n
    induction n with
    | zero => intro i g h1 h2; omega
    | succ n ih =>
      intro i g h1 h2 h3
      refine pk_le m i (fun hle => ?_) (fun hlt => ⟨pk_in i 5 (by omega), fun g2 hg z hz => ?_⟩)
      · have ht : tri m g (fun j => 2 * j) := fun j hj => ⟨h3 j (by omega), by show 2 * j < 64; omega⟩
        exact ⟨fun _ => ⟨64 ^ m + 1, k2 _ g _ 0 ht (Or.inl rfl) (Nat.lt_succ_of_le (Nat.sub_le _ _))⟩, fun _ => ⟨64 ^ m + 1, k2 _ g _ 1 ht (Or.inr rfl) (Nat.lt_succ_of_le (Nat.sub_le _ _))⟩⟩
      · rw [hz, nI_p1]
        rw [nI_clamp (show i < 2 ^ 31 by omega), show (2 : Int32) = nI 2 from rfl, pk_mul] at hg
        refine ih (i + 1) g2 (by omega) (by omega) (fun j hj => ?_)
        by_cases e : j = i
        · rw [hg, e, pk_us]
        · rw [hg, pk_un e]; exact h3 j (by omega)
  exact ⟨6, k1 6 0 f (by omega) (by omega) (fun j hj => absurd hj (by omega))⟩
/-- the least code: none, or one to five signals -/
theorem s_layLeast {post : Int32 → (Nat → Int32) → (Nat → Int32) → (Nat → Int64) → (Nat → Int64) → Prop} {en lo hi la tr : Nat → Int32} {kl kh : Nat → Int64} {st co pn : Nat} {lm : Int32} (hT : tabM st co en) (hp : pn ≤ 75) (H : ∀ m la' tr' kl' kh', m = -1 ∨ (∃ k, 1 ≤ k ∧ k ≤ 5 ∧ m = nI k) → post m la' tr' kl' kh') : wp_X10_layLeast post (nI st) (nI co) en (nI pn) lo hi lm la tr kl kh := by
  have h6 := hT.1
  refine s_isNormal hT ⟨fun _ => H _ _ _ _ _ (Or.inl rfl), fun q => absurd rfl q⟩ (fun _ => ⟨fun q => absurd q (by decide), fun _ => s_layKept h6 hp (fun kl2 kh2 => ⟨7, ?_⟩)⟩)
  have k3 : ∀ (m : Nat) (tr' : Nat → Int32), 1 ≤ m → m ≤ 5 → ∀ n i a, i ≤ m → m - i < n → w_X10_layLeast_50 (fun a => post (nI m) a tr' kl2 kh2) tr' (nI m) n (nI i) a := by
    intro m tr' h1 h5 n
    induction n with
    | zero => intro i a h1 h2; omega
    | succ n ih =>
      intro i a h1 h2
      refine pk_le m i (fun _ => H _ _ _ _ _ (Or.inr ⟨m, by omega, by omega, rfl⟩)) (fun hlt => ⟨pk_in i 5 (by omega), pk_in i 5 (by omega), fun a2 _ z hz => ?_⟩)
      rw [hz, nI_p1]
      exact ih (i + 1) a2 (by omega) (by omega)
  have hK : ∀ (m : Nat) (tr' : Nat → Int32), 1 ≤ m → m ≤ 6 → (((5 : Int32) < nI m → post ((-1) : Int32) la tr' kl2 kh2) ∧ (¬ (5 : Int32) < nI m → (∃ fu : Nat, w_X10_layLeast_50 (fun (yleastAt_14 : Nat → Int32) => post (nI m) yleastAt_14 tr' kl2 kh2) tr' (nI m) fu (0 : Int32) la))) := by
    intro m tr' h1 h2
    refine pk_lt 5 m (fun _ => H _ _ _ _ _ (Or.inl rfl)) (fun h5 => ⟨7, k3 m tr' h1 h5 7 0 la (by omega) (by omega)⟩)
  have k1 : ∀ n i tr', 1 ≤ i → i ≤ 6 → 6 - i < n → w_X10_layLeast_19 (fun (x1_8 : Int32) (ytried_8 : Nat → Int32) => (((5 : Int32) < x1_8 → post ((-1) : Int32) la ytried_8 kl2 kh2) ∧ (¬ (5 : Int32) < x1_8 → (∃ fu : Nat, w_X10_layLeast_50 (fun (yleastAt_14 : Nat → Int32) => post x1_8 yleastAt_14 ytried_8 kl2 kh2) ytried_8 x1_8 fu (0 : Int32) la)))) (nI st) (nI pn) kl2 kh2 n (nI i) tr' := by
    intro n
    induction n with
    | zero => intro i tr' h1 h2; omega
    | succ n ih =>
      intro i tr' h1 h2 h3
      refine pk_lt 5 i (fun _ => hK i tr' h1 h2) (fun hle => s_findLeast h6 (by omega) hle (fun r f' v' _ => ⟨fun _ z hz => ?_, fun _ => hK i f' h1 h2⟩))
      rw [hz, nI_p1]
      exact ih (i + 1) f' (by omega) (by omega) (by omega)
  exact k1 7 1 tr (by omega) (by omega) (by omega)
