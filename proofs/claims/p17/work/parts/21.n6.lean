/-! the least code: the reference's search -/
theorem r_layKept {post : (Nat → Int64) → (Nat → Int64) → Prop} {lo hi : Nat → Int32} {kl kh : Nat → Int64} {st pn : Nat} (hs : st ≤ 6) (hp : pn ≤ 63) (H : ∀ a b, (∀ g, g < 2 ^ st → mk (a g) (fun p => p < 40 ∧ p < pn ∧ kps (nI g) (lo p) (hi p)) ∧ mk (b g) (fun p => 40 + p < pn ∧ kps (nI g) (lo (40 + p)) (hi (40 + p)))) → post a b) : wp_X10_layKept post (nI st) (nI pn) lo hi kl kh := by
  have hq := p2_6 hs
  have k2 : ∀ (KE : (Nat → Int64) → (Nat → Int64) → Prop) (g : Nat) (a0 b0 : Nat → Int64), g < 64 → (∀ a b, (∀ j, j ≠ g → a j = a0 j ∧ b j = b0 j) → mk (a g) (fun p => p < 40 ∧ p < pn ∧ kps (nI g) (lo p) (hi p)) → mk (b g) (fun p => 40 + p < pn ∧ kps (nI g) (lo (40 + p)) (hi (40 + p))) → KE a b) → ∀ n i a b, i ≤ pn → pn - i < n → (∀ j, j ≠ g → a j = a0 j ∧ b j = b0 j) → mk (a g) (fun p => p < 40 ∧ p < i ∧ kps (nI g) (lo p) (hi p)) → mk (b g) (fun p => 40 + p < i ∧ kps (nI g) (lo (40 + p)) (hi (40 + p))) → w_X10_layKept_28 KE (nI pn) lo hi (nI g) n (nI i) a b := by
    intro KE g a0 b0 hg hKE n
    induction n with
    | zero => intro i a b h1 h2; omega
    | succ n ih =>
      intro i a b h1 h2 h3 h4 h5
      have hv : vp_in (nI g) 64 := pk_in g 64 hg
      have cg : (nI g).toNatClampNeg = g := nI_clamp (by omega)
      refine pk_le pn i (fun hle => hKE a b h3 (by rw [show pn = i by omega]; exact h4) (by rw [show pn = i by omega]; exact h5)) (fun hlt => ⟨pk_in i 80 (by omega), pk_in i 80 (by omega), ?_⟩)
      rw [nI_clamp (show i < 2 ^ 31 by omega)]
      -- what is done with the bit
      have J : ∀ w : Int64, (w = 1 ∧ kps (nI g) (lo i) (hi i)) ∨ (w = 0 ∧ ¬ kps (nI g) (lo i) (hi i)) → j_X10_layKept_60 (w_X10_layKept_28 KE (nI pn) lo hi (nI g) n) a b (nI g) (nI i) w := by
        intro w hw
        have hbit : ∀ k, k < 64 → mk (w <<< ((nI k).toInt64 &&& 63)) (fun p => p = k ∧ kps (nI g) (lo i) (hi i)) := by
          intro k hk
          rcases hw with ⟨e, q⟩ | ⟨e, q⟩
          · rw [e]; exact mk_cg (mk_bit hk) (fun p _ => ⟨fun r => ⟨r, q⟩, fun r => r.1⟩)
          · rw [e, show (0 : Int64) <<< ((nI k).toInt64 &&& 63) = 0 from by
              have : ∀ k, k < 64 → (0 : Int64) <<< ((nI k).toInt64 &&& 63) = 0 := by decide +kernel
              exact this k hk]
            exact mk_cg mk_0 (fun p _ => ⟨fun r => r.elim, fun r => q r.2⟩)
        have fin : ∀ a2 b2 z, a2 = vp_updL a g (a2 g) → b2 = vp_updL b g (b2 g) → mk (a2 g) (fun p => p < 40 ∧ p < i + 1 ∧ kps (nI g) (lo p) (hi p)) → mk (b2 g) (fun p => 40 + p < i + 1 ∧ kps (nI g) (lo (40 + p)) (hi (40 + p))) → z = nI i + 1 → w_X10_layKept_28 KE (nI pn) lo hi (nI g) n z a2 b2 := by
          intro a2 b2 z ea eb ma mb hz
          rw [hz, nI_p1 i]
          refine ih (i + 1) a2 b2 (by omega) (by omega) (fun j hj => ?_) ma mb
          rw [ea, eb, pk_uLn hj, pk_uLn hj]
          exact h3 j hj
        unfold j_X10_layKept_60
        rw [cg]
        refine ⟨hv, pk_le 40 i (fun hle => ?_) (fun hlt2 => ?_)⟩
        · unfold j_X10_layKept_81
          rw [cg]
          refine ⟨hv, fun a2 e2 => ⟨hv, fun _ => ⟨hv, fun b2 e3 z hz => ?_⟩, fun q => absurd ((nI_leI (by omega) (by omega)).mpr hle) q⟩⟩
          rw [show (40 : Int32) = nI 40 from rfl, pk_sub hle] at e3
          refine fin a2 b2 z (by rw [e2, pk_uLs]) (by rw [e3, pk_uLs]) ?_ ?_ hz
          · rw [e2, pk_uLs]
            exact mk_cg (mk_or h4 mk_0) (fun p _ => ⟨fun r => r.elim (fun r => ⟨r.1, by omega, r.2.2⟩) (fun r => r.elim), fun r => Or.inl ⟨r.1, by omega, r.2.2⟩⟩)
          · rw [e3, pk_uLs]
            refine mk_cg (mk_or h5 (hbit (i - 40) (by omega))) (fun p _ => ⟨?_, ?_⟩)
            · rintro (r | ⟨r1, r2⟩)
              · exact ⟨by omega, r.2⟩
              · rw [show 40 + p = i by omega]; exact ⟨by omega, r2⟩
            · rintro ⟨r1, r2⟩
              by_cases e : 40 + p = i
              · rw [e] at r2; exact Or.inr ⟨by omega, r2⟩
              · exact Or.inl ⟨by omega, r2⟩
        · unfold j_X10_layKept_81
          rw [cg]
          refine ⟨hv, fun a2 e2 => ⟨hv, fun q => absurd ((nI_leI (a := 40) (b := i) (by omega) (by omega)).mp q) (by omega), fun _ => ⟨hv, fun b2 e3 z hz => ?_⟩⟩⟩
          refine fin a2 b2 z (by rw [e2, pk_uLs]) (by rw [e3, pk_uLs]) ?_ ?_ hz
          · rw [e2, pk_uLs]
            refine mk_cg (mk_or h4 (hbit i (by omega))) (fun p _ => ⟨?_, ?_⟩)
            · rintro (r | ⟨r1, r2⟩)
              · exact ⟨r.1, by omega, r.2.2⟩
              · rw [r1]; exact ⟨by omega, by omega, r2⟩
            · rintro ⟨r0, r1, r2⟩
              by_cases e : p = i
              · rw [e] at r2; exact Or.inr ⟨e, r2⟩
              · exact Or.inl ⟨r0, by omega, r2⟩
          · rw [e3, pk_uLs]
            exact mk_cg (mk_or h5 mk_0) (fun p _ => ⟨fun r => r.elim (fun r => ⟨by omega, r.2⟩) (fun r => r.elim), fun r => absurd r.1 (by omega)⟩)
      exact r_keeps (fun q => ⟨fun q1 => absurd q1 (by decide), fun _ => J 1 (Or.inl ⟨rfl, q⟩)⟩) (fun q => ⟨fun _ => J 0 (Or.inr ⟨rfl, q⟩), fun q1 => absurd rfl q1⟩)
  have k1 : ∀ n i a b, i ≤ 2 ^ st → 2 ^ st - i < n → (∀ g, g < i → mk (a g) (fun p => p < 40 ∧ p < pn ∧ kps (nI g) (lo p) (hi p)) ∧ mk (b g) (fun p => 40 + p < pn ∧ kps (nI g) (lo (40 + p)) (hi (40 + p)))) → w_X10_layKept_2 (fun a b => post a b) (nI st) (nI pn) lo hi n (nI i) a b := by
    intro n
    induction n with
    | zero => intro i a b h1 h2; omega
    | succ n ih =>
      intro i a b h1 h2 h3
      refine pk_le (2 ^ st) i (fun hle => H _ _ (fun g hg => h3 g (by omega))) (fun hlt => ⟨pk_in i 64 (by omega), fun a2 e2 => ⟨pk_in i 64 (by omega), fun b2 e3 => ⟨76, ?_⟩⟩⟩) (sh1 st (by omega))
      rw [nI_clamp (show i < 2 ^ 31 by omega)] at e2 e3
      refine k2 _ i a b (by omega) (fun a3 b3 q1 q2 q3 z hz => ?_) 76 0 a2 b2 (by omega) (by omega) (fun j hj => by rw [e2, e3, pk_uLn hj, pk_uLn hj]; exact ⟨rfl, rfl⟩) ?_ ?_
      · rw [hz, nI_p1]
        refine ih (i + 1) _ _ (by omega) (by omega) (fun g hg => ?_)
        by_cases e : g = i
        · rw [e]; exact ⟨q2, q3⟩
        · rw [(q1 g e).1, (q1 g e).2]; exact h3 g (by omega)
      · rw [e2, pk_uLs]; exact mk_cg mk_0 (fun p _ => ⟨fun q => q.elim, fun q => absurd q.2.1 (by omega)⟩)
      · rw [e3, pk_uLs]; exact mk_cg mk_0 (fun p _ => ⟨fun q => q.elim, fun q => absurd q.1 (by omega)⟩)
  exact ⟨65, k1 65 0 _ _ (Nat.zero_le _) (Nat.lt_succ_of_le (Nat.le_trans (Nat.sub_le _ _) hq)) (fun g hg => absurd hg (Nat.not_lt_zero g))⟩
theorem mk_ones : ∀ n, n < 41 → ∀ j, j < 64 → bl (((1 : Int64) <<< ((nI n).toInt64 &&& 63)) - (1 : Int64)) j = decide (j < n) := by decide +kernel
theorem mk_one {n : Nat} (h : n < 41) : mk (((1 : Int64) <<< ((nI n).toInt64 &&& 63)) - (1 : Int64)) (fun j => j < n) := fun j hj => by
  rw [mk_ones n h j hj]
  exact decide_eq_true_iff
theorem mk_40 : mk (1099511627775 : Int64) (fun j => j < 40) := by
  have := mk_one (n := 40) (by omega)
  rw [show ((1 : Int64) <<< ((nI 40).toInt64 &&& 63)) - (1 : Int64) = (1099511627775 : Int64) from by decide +kernel] at this
  exact this
/-- a row of signals that is tried: m of them, rising -/
def Inc (N m : Nat) (t : Nat → Nat) : Prop := (∀ i, i < m → t i < N) ∧ ∀ i, i + 1 < m → t i < t (i + 1)
theorem r_isTriedGood {post : Int32 → Prop} {lo hi f : Nat → Int32} {kl kh : Nat → Int64} {st m pn N : Nat} {t : Nat → Nat} (hN : 2 * N = 2 ^ st) (hN2 : N ≤ 32) (hp : pn ≤ 63) (hm : m ≤ 5) (ht : ∀ i, i < m → f i = nI (2 * t i) ∧ t i < N) (hk : ∀ g, g < 2 ^ st → mk (kl g) (fun p => p < 40 ∧ p < pn ∧ kps (nI g) (lo p) (hi p)) ∧ mk (kh g) (fun p => 40 + p < pn ∧ kps (nI g) (lo (40 + p)) (hi (40 + p)))) (H1 : (∀ p, p < pn → ∃ i, i < m ∧ kps (nI (2 * t i)) (lo p) (hi p)) → post 1) (H0 : ¬ (∀ p, p < pn → ∃ i, i < m ∧ kps (nI (2 * t i)) (lo p) (hi p)) → post 0) : wp_X10_isTriedGood post (nI pn) f kl kh (nI m) := by
  have J : ∀ a b c d : Int64, mk a (fun p => p < 40 ∧ p < pn ∧ ∃ i, i < m ∧ kps (nI (2 * t i)) (lo p) (hi p)) → mk b (fun p => 40 + p < pn ∧ ∃ i, i < m ∧ kps (nI (2 * t i)) (lo (40 + p)) (hi (40 + p))) → mk c (fun p => p < 40 ∧ p < pn) → mk d (fun p => 40 + p < pn) → j_X10_isTriedGood_101 post a b c d := by
    intro a b c d ha hb hc hd
    unfold j_X10_isTriedGood_101
    rw [lg_cmp_eq, lg_cmp_eq, mk_eq ha hc, mk_eq hb hd]
    refine ⟨fun q1 => ⟨fun q2 => H1 (fun p hpp => ?_), fun q2 => H0 (fun h => q2 (fun p _ => ⟨fun r => r.1, fun r => ⟨r, h _ r⟩⟩))⟩, fun q1 => H0 (fun h => q1 (fun p _ => ⟨fun r => ⟨r.1, r.2.1⟩, fun r => ⟨r.1, r.2, h p r.2⟩⟩))⟩
    by_cases e : p < 40
    · exact ((q1 p (by omega)).mpr ⟨e, hpp⟩).2.2
    · have := ((q2 (p - 40) (by omega)).mpr (by omega)).2
      rw [show 40 + (p - 40) = p by omega] at this
      exact this
  have key : ∀ n i a b, i ≤ m → m - i < n → mk a (fun p => p < 40 ∧ p < pn ∧ ∃ j, j < i ∧ kps (nI (2 * t j)) (lo p) (hi p)) → mk b (fun p => 40 + p < pn ∧ ∃ j, j < i ∧ kps (nI (2 * t j)) (lo (40 + p)) (hi (40 + p))) → w_X10_isTriedGood_8 (fun (x2_9 : Int64) (x4_9 : Int64) => (((40 : Int32) ≤ nI pn → (j_X10_isTriedGood_75 post (nI pn) x2_9 x4_9 (1099511627775 : Int64))) ∧ (¬ (40 : Int32) ≤ nI pn → (j_X10_isTriedGood_75 post (nI pn) x2_9 x4_9 (((1 : Int64) <<< ((nI pn).toInt64 &&& 63)) - (1 : Int64)))))) f kl kh (nI m) n a b (nI i) := by
    intro n
    induction n with
    | zero => intro i a b h1 h2; omega
    | succ n ih =>
      intro i a b h1 h2 ha hb
      refine pk_le m i (fun hle => ?_) (fun hlt => ?_)
      · rw [show i = m by omega] at ha hb
        refine pk_le 40 pn (fun h40 => ?_) (fun h40 => ?_)
        · unfold j_X10_isTriedGood_75
          rw [show (40 : Int32) = nI 40 from rfl, pk_sub h40]
          refine ⟨fun _ => J _ _ _ _ ha hb (mk_cg mk_40 (fun p _ => ⟨fun r => ⟨r, by omega⟩, fun r => r.1⟩)) (mk_cg (mk_one (n := pn - 40) (by omega)) (fun p _ => ⟨fun r => by omega, fun r => by omega⟩)), fun q => absurd ((nI_leI (by omega) (by omega)).mpr h40) q⟩
        · refine ⟨fun q => absurd ((nI_leI (b := pn) (a := 40) (by omega) (by omega)).mp q) (by omega), fun _ => J _ _ _ _ ha hb (mk_cg (mk_one (n := pn) (by omega)) (fun p _ => ⟨fun r => ⟨by omega, r⟩, fun r => r.2⟩)) (mk_cg mk_0 (fun p _ => ⟨fun r => r.elim, fun r => absurd r (by omega)⟩))⟩
      · obtain ⟨e, hv⟩ := ht i hlt
        have hv2 : 2 * t i < 2 ^ st := by omega
        have hst : 2 ^ st ≤ 64 := by omega
        rw [nI_clamp (show i < 2 ^ 31 by omega), e, nI_clamp (show 2 * t i < 2 ^ 31 by omega)]
        have h5 : vp_in (nI i) 5 := pk_in i 5 (by omega)
        have h64 : vp_in (nI (2 * t i)) 64 := pk_in (2 * t i) 64 (by omega)
        refine ⟨h5, h64, fun a2 e2 => ⟨h5, h64, fun b2 e3 z hz => ?_⟩⟩
        rw [hz, nI_p1, e2, e3]
        refine ih (i + 1) _ _ (by omega) (by omega) (mk_cg (mk_or ha (hk _ hv2).1) (fun p _ => ⟨?_, ?_⟩)) (mk_cg (mk_or hb (hk _ hv2).2) (fun p _ => ⟨?_, ?_⟩))
        · rintro (⟨r1, r2, j, r3, r4⟩ | ⟨r1, r2, r3⟩)
          · exact ⟨r1, r2, j, by omega, r4⟩
          · exact ⟨r1, r2, i, by omega, r3⟩
        · rintro ⟨r1, r2, j, r3, r4⟩
          by_cases ej : j = i
          · rw [ej] at r4; exact Or.inr ⟨r1, r2, r4⟩
          · exact Or.inl ⟨r1, r2, j, by omega, r4⟩
        · rintro (⟨r2, j, r3, r4⟩ | ⟨r2, r3⟩)
          · exact ⟨r2, j, by omega, r4⟩
          · exact ⟨r2, i, by omega, r3⟩
        · rintro ⟨r2, j, r3, r4⟩
          by_cases ej : j = i
          · rw [ej] at r4; exact Or.inr ⟨r2, r4⟩
          · exact Or.inl ⟨r2, j, by omega, r4⟩
  exact ⟨6, key 6 0 0 0 (by omega) (by omega) (mk_cg mk_0 (fun p _ => ⟨fun q => q.elim, fun ⟨_, _, j, q, _⟩ => absurd q (Nat.not_lt_zero j)⟩)) (mk_cg mk_0 (fun p _ => ⟨fun q => q.elim, fun ⟨_, j, q, _⟩ => absurd q (Nat.not_lt_zero j)⟩))⟩
