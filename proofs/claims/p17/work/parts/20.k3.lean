theorem nx_xor (a b : Nat) : nI a ^^^ nI b = nI (a ^^^ b) := by
  apply Int32.toBitVec_inj.1
  show BitVec.ofNat 32 a ^^^ BitVec.ofNat 32 b = BitVec.ofNat 32 (a ^^^ b)
  apply BitVec.eq_of_getLsbD_eq
  intro i hi
  simp [hi]
/-! a number's bits as digits to the base 3 -/
def t3 (m : Nat) : Nat := m % 2 + 3 * (m / 2 % 2) + 9 * (m / 4 % 2) + 27 * (m / 8 % 2) + 81 * (m / 16 % 2) + 243 * (m / 32 % 2) + 729 * (m / 64 % 2)
theorem t3_b : ∀ u, u < 128 → ∀ a, a < 128 → a &&& u = a → t3 a + 2 * t3 (127 ^^^ u) ≤ 2186 := by decide +kernel
theorem t3_m : ∀ x, x < 128 → ∀ y, y < 128 → t3 (x &&& y) ≤ t3 y := by decide +kernel
theorem and127 : ∀ x, x < 128 → x &&& 127 = x := by decide +kernel
theorem un_id (x : Int32) : nI x.toBitVec.toNat = x := by
  apply Int32.toBitVec_inj.1
  show BitVec.ofNat 32 x.toBitVec.toNat = x.toBitVec
  simp
theorem cmp7 (X : Nat) : (X ^^^ (2 ^ 32 - 1)) &&& 127 = 127 ^^^ (X &&& 127) := by
  rw [show (127 : Nat) = 2 ^ 7 - 1 from rfl]
  apply Nat.eq_of_testBit_eq
  intro i
  rw [Nat.testBit_and, Nat.testBit_xor, Nat.testBit_xor, Nat.testBit_and, Nat.testBit_two_pow_sub_one, Nat.testBit_two_pow_sub_one]
  by_cases h7 : i < 7
  · have h32 : i < 32 := by omega
    simp [h7, h32]
  · simp [h7]
theorem q_indexOf {post : Int32 → Prop} {it : Nat → Int32} {al : Nat} {x1 x2 : Int32} (ha : al < 128) (h3 : ∀ k, k < 128 → it k = nI (t3 k)) (H : ∀ k, k < 2187 → post (nI k)) : wp_X1_indexOf post it (nI al) x1 x2 := by
  unfold wp_X1_indexOf
  obtain ⟨X1, e1⟩ : ∃ X, x1 = nI X := ⟨_, (un_id x1).symm⟩
  obtain ⟨X2, e2⟩ : ∃ X, x2 = nI X := ⟨_, (un_id x2).symm⟩
  have em : (-1 : Int32) = nI (2 ^ 32 - 1) := by decide +kernel
  rw [e1, e2, em, nx_and, nx_and, nx_xor, nx_and]
  have al7 := and127 al ha
  -- the two masks
  have b1 : X2 &&& X1 &&& al ≤ al := Nat.and_le_right
  have b2 : al &&& (X1 ^^^ (2 ^ 32 - 1)) ≤ al := Nat.and_le_left
  have u7 : X1 &&& 127 ≤ 127 := Nat.and_le_right
  have eb : al &&& (X1 ^^^ (2 ^ 32 - 1)) = al &&& (127 ^^^ (X1 &&& 127)) := by
    rw [← cmp7, ← Nat.and_assoc, Nat.and_comm (al &&& _) 127, ← Nat.and_assoc, Nat.and_comm 127 al, al7]
  have ea : (X2 &&& X1 &&& al) &&& (X1 &&& 127) = X2 &&& X1 &&& al := by
    apply Nat.eq_of_testBit_eq
    intro i
    have : al.testBit i = (al.testBit i && (127 : Nat).testBit i) := by rw [← Nat.testBit_and, al7]
    rw [Nat.testBit_and, Nat.testBit_and, Nat.testBit_and, Nat.testBit_and]
    cases h1 : X2.testBit i <;> cases h2 : X1.testBit i <;> cases h3 : al.testBit i <;> cases h4 : (127 : Nat).testBit i <;> simp_all
  have l1 := t3_b (X1 &&& 127) (by omega) _ (by omega) ea
  have l0 : 127 ^^^ (X1 &&& 127) < 128 := by
    have : ∀ u, u < 128 → 127 ^^^ u < 128 := by decide +kernel
    exact this _ (by omega)
  have l2 := t3_m al ha (127 ^^^ (X1 &&& 127)) l0
  rw [← eb] at l2
  rw [nI_clamp (show X2 &&& X1 &&& al < 2 ^ 31 by omega), nI_clamp (show al &&& (X1 ^^^ (2 ^ 32 - 1)) < 2 ^ 31 by omega), h3 _ (by omega), h3 _ (by omega), show (2 : Int32) = nI 2 from rfl, pk_mul, nI_add]
  exact ⟨pk_in (X2 &&& X1 &&& al) 128 (by omega), pk_in (al &&& (X1 ^^^ (2 ^ 32 - 1))) 128 (by omega), H _ (by omega)⟩
theorem q_seenAt {post : Int32 → Prop} {x : Int32} (H : ∀ r, post r) : wp_X1_seenAtPoint post x := ⟨fun _ => H _, fun _ => ⟨fun _ => H _, fun _ => H _⟩⟩
theorem q_look {post : (Nat → Int32) → Int32 → Prop} {ac se it : Nat → Int32} {b : Nat} {al x2 : Int32} (hb : b ≤ 7) (h3 : ∀ k, k < 128 → it k = nI (t3 k)) (H : ∀ a, post a (nI (2 ^ b - 1))) : wp_X1_look post ac (nI b) se it al x2 := by
  have hq := p2_le b (by omega)
  have hq0 : 0 < 2 ^ b := Nat.two_pow_pos b
  refine q_apoints hb (fun f hf => ?_)
  rw [show (1 : Int32) = nI 1 from rfl, pk_sub (by omega)] at hf
  subst hf
  have A : 2 ^ b - 1 < 128 := by omega
  have J : ∀ (KL : Int32 → Int32 → (Nat → Int32) → Prop) (se : Nat → Int32) (x3 x6 v : Int32) (j : Nat), (∀ z a, KL z (nI j) a) → j_X1_look_105 KL se it (nI (2 ^ b - 1)) x3 x6 (nI (j + 1)) v := by
    intro KL se x3 x6 v j hK
    refine q_indexOf A h3 (fun k hk => ⟨pk_in k 2187 hk, fun a _ z _ y hy => ?_⟩)
    rw [hy, pk_m1]
    exact hK _ _
  have k2 : ∀ (KE : (Nat → Int32) → Prop) (x3 x5 : Int32), (∀ a, KE a) → ∀ n j x6 se, j < n → w_X1_look_48 KE ac it (nI (2 ^ b - 1)) x2 x3 x5 n x6 (nI j) se ∨ 2 ^ 31 ≤ j := by
    intro KE x3 x5 hK n
    induction n with
    | zero => intro j x6 se h; omega
    | succ n ih =>
      intro j x6 se h
      by_cases hj : 2 ^ 31 ≤ j
      · exact Or.inr hj
      left
      refine pk_le j 0 (fun _ => hK _) (fun hpos => ?_)
      obtain ⟨i, rfl⟩ : ∃ i, j = i + 1 := ⟨j - 1, by omega⟩
      have hr : ∀ z a, w_X1_look_48 KE ac it (nI (2 ^ b - 1)) x2 x3 x5 n z (nI i) a := fun z a => (ih i z a (by omega)).resolve_right (by omega)
      exact ⟨fun _ => q_aat (fun _ => q_seenAt (fun _ => J _ _ _ _ _ i hr)), fun _ => q_indexOf A h3 (fun k hk => ⟨pk_in k 2187 hk, q_indexOf A h3 (fun k2 hk2 => ⟨pk_in k2 2187 hk2, J _ _ _ _ _ i hr⟩)⟩)⟩
  have k2' : ∀ (KE : (Nat → Int32) → Prop) (x3 x5 x6 x7 : Int32) (se : Nat → Int32), (∀ a, KE a) → ∃ n, w_X1_look_48 KE ac it (nI (2 ^ b - 1)) x2 x3 x5 n x6 x7 se := by
    intro KE x3 x5 x6 x7 se hK
    by_cases h0 : x7 < 0
    · refine ⟨1, fun _ => hK _, fun q => absurd ?_ q⟩
      rw [Int32.lt_iff_toInt_lt] at h0
      rw [Int32.le_iff_toInt_le]
      omega
    · obtain ⟨j, hj, rfl⟩ := nI_of h0
      exact ⟨j + 1, (k2 KE x3 x5 hK (j + 1) j x6 se (by omega)).resolve_right (by omega)⟩
  have k1 : ∀ n i se, i ≤ 128 → i < n → w_X1_look_15 (fun (yseen_22 : Nat → Int32) => post yseen_22 (nI (2 ^ b - 1))) ac it (nI (2 ^ b - 1)) x2 n (nI i + (-1)) se := by
    intro n
    induction n with
    | zero => intro i se h1 h2; omega
    | succ n ih =>
      intro i se h1 h2
      cases i with
      | zero =>
        rw [show nI 0 + (-1) = (-1 : Int32) from by decide]
        exact ⟨fun _ => H _, fun q => absurd (by decide) q⟩
      | succ i =>
        rw [pk_m1]
        exact pk_lt i 0 (fun q => absurd q (by omega)) (fun _ x4 _ x5 _ => q_bitCount (fun r x7 _ => k2' _ _ _ _ _ _ (fun a z hz => by rw [hz]; exact ih i a (by omega) (by omega))))
  refine ⟨130, ?_⟩
  have e : nI (2 ^ b - 1) = nI (2 ^ b - 1 + 1) + (-1) := (pk_m1 _).symm
  have key := k1 130 (2 ^ b - 1 + 1) se (by omega) (by omega)
  rw [← e] at key
  exact key
theorem q_cisWide {post : Int32 → Prop} {se it : Nat → Int32} {al : Nat} {x1 x2 : Int32} (ha : al < 128) (h3 : ∀ k, k < 128 → it k = nI (t3 k)) (H : ∀ r, post r) : wp_X1_isWide post se it (nI al) x1 x2 := by
  have key : ∀ n i, i ≤ 7 → 7 - i < n → w_X1_isWide_19 post (post 1) se it (nI al) x1 x2 n (nI i) := by
    intro n
    induction n with
    | zero => intro i h1 h2; omega
    | succ n ih =>
      intro i h1 h2
      have hr : i < 7 → ∀ b, b = nI i + 1 → w_X1_isWide_19 post (post 1) se it (nI al) x1 x2 n b := fun hlt b hb => by rw [hb, nI_p1 i]; exact ih (i + 1) (by omega) (by omega)
      exact pk_le 7 i (fun _ => H _) (fun hlt x4 _ => ⟨fun _ => hr hlt, fun _ => q_indexOf ha h3 (fun k hk => ⟨pk_in k 2187 hk, fun _ => H _, fun _ => hr hlt⟩)⟩)
  exact q_indexOf ha h3 (fun k hk => ⟨pk_in k 2187 hk, fun _ => ⟨8, key 8 0 (by omega) (by omega)⟩, fun _ => H _⟩)
theorem q_collectWide {post : (Nat → Int32) → (Nat → Int32) → Int32 → Prop} {se it as on : Nat → Int32} {al : Nat} {w : Int32} (ha : al < 128) (h3 : ∀ k, k < 128 → it k = nI (t3 k)) (H : ∀ a b k, k ≤ 672 → post a b (nI k)) : wp_X4_collectWide post se it (nI al) as on w := by
  have k2 : ∀ (KE : (Nat → Int32) → (Nat → Int32) → Int32 → Prop) (x2 : Int32), (∀ a b k, k ≤ 672 → KE a b (nI k)) → ∀ n j x3 a b k, j < n → j < 2 ^ 31 → k ≤ 672 → w_X4_collectWide_25 KE se it (nI al) x2 n x3 (nI j) a b (nI k) := by
    intro KE x2 hK n
    induction n with
    | zero => intro j x3 a b k h; omega
    | succ n ih =>
      intro j x3 a b k h hj hk
      refine pk_le j 0 (fun _ => hK _ _ _ hk) (fun hpos => ?_)
      obtain ⟨i, rfl⟩ : ∃ i, j = i + 1 := ⟨j - 1, by omega⟩
      have hr : ∀ (z z' y : Int32) a b k, k ≤ 672 → z = z' → y = nI (i + 1) + (-1) → w_X4_collectWide_25 KE se it (nI al) x2 n z y a b (nI k) := fun z z' y a b k hk _ hy => by rw [hy, pk_m1]; exact ih i z a b k (by omega) (by omega) hk
      refine pk_le 672 k (fun _ z hz y hy => hr z _ y a b k hk hz hy) (fun hlt => q_cisWide ha h3 (fun _ => ⟨fun _ z hz y hy => hr z _ y a b k hk hz hy, fun _ => ⟨pk_in k 672 hlt, fun a2 _ => ⟨pk_in k 672 hlt, fun b2 _ f hf z hz y hy => ?_⟩⟩⟩))
      rw [hf, nI_p1 k]
      exact hr z _ y a2 b2 (k + 1) (by omega) hz hy
  have k2' : ∀ (KE : (Nat → Int32) → (Nat → Int32) → Int32 → Prop) (x2 x3 x4 : Int32) a b k, (∀ a b k, k ≤ 672 → KE a b (nI k)) → k ≤ 672 → ∃ n, w_X4_collectWide_25 KE se it (nI al) x2 n x3 x4 a b (nI k) := by
    intro KE x2 x3 x4 a b k hK hk
    by_cases h0 : x4 < 0
    · refine ⟨1, fun _ => hK _ _ _ hk, fun q => absurd ?_ q⟩
      rw [Int32.lt_iff_toInt_lt] at h0
      rw [Int32.le_iff_toInt_le]
      omega
    · obtain ⟨j, hj, rfl⟩ := nI_of h0
      exact ⟨j + 1, k2 KE x2 hK (j + 1) j x3 a b k (by omega) hj hk⟩
  have k1 : ∀ n i a b k, i ≤ al + 1 → al + 1 - i < n → k ≤ 672 → w_X4_collectWide_7 (fun a b c => post a b c) se it (nI al) n (nI i) a b (nI k) := by
    intro n
    induction n with
    | zero => intro i a b k h1 h2; omega
    | succ n ih =>
      intro i a b k h1 h2 hk
      exact pk_lt al i (fun _ => H _ _ _ hk) (fun hle => q_bitCount (fun r x4 _ => k2' _ _ _ _ _ _ _ (fun a b k hk z hz => by rw [hz, nI_p1 i]; exact ih (i + 1) a b k (by omega) (by omega) hk) hk))
  exact ⟨130, k1 130 0 as on 0 (by omega) (by omega) (by omega)⟩
/-- the sum of a Logic: places of its rows -/
def smL (s : Nat) (sum : Nat → Int32) : Prop := s ≤ 672 ∧ ∀ i, i < s → ∃ j, j < 672 ∧ sum i = nI j
theorem smL_up {s j : Nat} {sum : Nat → Int32} (h : smL s sum) (hs : s < 672) (hj : j < 672) : smL (s + 1) (upd sum s (nI j)) := ⟨by omega, fun k hk => by
  by_cases e : k = s
  · exact ⟨j, hj, by rw [e, pk_us]⟩
  · rw [pk_un e]; exact h.2 k (by omega)⟩
theorem q_hasBoth {post : Int32 → Prop} {as on : Nat → Int32} {j : Nat} {x y : Int32} (hj : j < 672) (H : ∀ r, post r) : wp_X4_hasBoth post as on (nI j) x y := by
  have hv : vp_in (nI j) 672 := pk_in j 672 hj
  exact ⟨hv, fun _ => ⟨hv, hv, fun _ => H _, fun _ => H _⟩, fun _ => H _⟩
theorem q_cover {post : (Nat → Int32) → Int32 → Prop} {as on sum : Nat → Int32} {w s : Nat} {x y : Int32} (hw : w ≤ 672) (hs : smL s sum) (H : ∀ sum' s', smL s' sum' → post sum' (nI s')) : wp_X4_cover post as on sum (nI w) (nI s) x y := by
  have h672 := hs.1
  have k2 : ∀ n i a b, (a = -1 ∨ ∃ j, j < 672 ∧ a = nI j) → i ≤ w → w - i < n → w_X4_cover_41 (fun (x3_18 : Int32) => ((x3_18 = ((-1) : Int32) → post sum (nI s)) ∧ (¬ x3_18 = ((-1) : Int32) → (((672 : Int32) ≤ nI s → post sum (nI s)) ∧ (¬ (672 : Int32) ≤ nI s → (vp_in (nI s) 672 ∧ ∀ a_21 : Nat → Int32, a_21 = upd sum (nI s).toNatClampNeg x3_18 → (∀ f_22 : Int32, f_22 = (nI s + (1 : Int32)) → post a_21 f_22))))))) as on (nI w) x y n a b (nI i) := by
    intro n
    induction n with
    | zero => intro i a b h h1 h2; omega
    | succ n ih =>
      intro i a b h h1 h2
      refine pk_le w i (fun _ => ⟨fun _ => H _ _ hs, fun hn => pk_le 672 s (fun _ => H _ _ hs) (fun hlt => ⟨pk_in s 672 hlt, fun c hc f hf => ?_⟩)⟩) (fun hlt => ?_)
      · obtain ⟨j, hj, e⟩ := h.resolve_left hn
        rw [nI_clamp (show s < 2 ^ 31 by omega), e] at hc
        rw [hf, nI_p1 s, hc]
        exact H _ _ (smL_up hs hlt hj)
      · have hv : vp_in (nI i) 672 := pk_in i 672 (by omega)
        exact q_hasBoth (by omega) (fun _ => ⟨fun _ z hz => by rw [hz, nI_p1 i]; exact ih (i + 1) a b h (by omega) (by omega), fun _ => ⟨hv, q_bitCount (fun _ => ⟨fun _ z hz => by rw [hz, nI_p1 i]; exact ih (i + 1) a b h (by omega) (by omega), fun _ => ⟨hv, q_bitCount (fun r z hz => by rw [hz, nI_p1 i]; exact ih (i + 1) (nI i) r (Or.inr ⟨i, by omega, rfl⟩) (by omega) (by omega))⟩⟩)⟩⟩)
  have k1 : ∀ (KE : Prop), KE → ∀ n i, i ≤ s → s - i < n → w_X4_cover_2 post KE as on sum (nI s) x y n (nI i) := by
    intro KE hK n
    induction n with
    | zero => intro i h1 h2; omega
    | succ n ih =>
      intro i h1 h2
      refine pk_le s i (fun _ => hK) (fun hlt => ⟨pk_in i 672 (by omega), ?_⟩)
      obtain ⟨j, hj, e⟩ := hs.2 i hlt
      rw [nI_clamp (show i < 2 ^ 31 by omega), e]
      exact q_hasBoth hj (fun _ => ⟨fun _ z hz => by rw [hz, nI_p1 i]; exact ih (i + 1) (by omega) (by omega), fun _ => H _ _ hs⟩)
  exact ⟨s + 1, k1 _ ⟨w + 1, k2 (w + 1) 0 (-1) 8 (Or.inl rfl) (by omega) (by omega)⟩ (s + 1) 0 (by omega) (by omega)⟩
theorem q_collectSum {post : (Nat → Int32) → Int32 → Int32 → Prop} {ac as on sum : Nat → Int32} {b w : Nat} {s fl x2 : Int32} (hb : b ≤ 7) (hw : w ≤ 672) (H : ∀ sum' s' f, smL s' sum' → post sum' (nI s') f) : wp_X4_collectSum post ac (nI b) as on sum (nI w) s fl x2 := by
  have hq := p2_le b (by omega)
  have k3 : ∀ (KE : (Nat → Int32) → Int32 → Prop) (x4 : Int32), (∀ a k, smL k a → KE a (nI k)) → ∀ n i a k, i ≤ b → b - i < n → smL k a → w_X4_collectSum_57 KE ac (nI b) as on (nI w) x2 x4 n (nI i) a (nI k) := by
    intro KE x4 hK n
    induction n with
    | zero => intro i a k h1 h2; omega
    | succ n ih =>
      intro i a k h1 h2 h3
      refine pk_le b i (fun _ => hK _ _ h3) (fun hlt x6 _ => ?_)
      have hr : ∀ a k z, smL k a → z = nI i + 1 → w_X4_collectSum_57 KE ac (nI b) as on (nI w) x2 x4 n z a (nI k) := fun a k z hk hz => by rw [hz, nI_p1 i]; exact ih (i + 1) a k (by omega) (by omega) hk
      have J : ∀ v, j_X4_collectSum_85 (w_X4_collectSum_57 KE ac (nI b) as on (nI w) x2 x4 n) ac as on a (nI w) (nI k) x2 x4 (nI i) x6 v := fun v => ⟨fun _ z hz => hr a k z h3 hz, fun _ => q_aat (fun _ => ⟨fun _ => q_aat (fun _ => ⟨fun _ => q_cover hw h3 (fun a k hk z hz => hr a k z hk hz), fun _ z hz => hr a k z h3 hz⟩), fun _ z hz => hr a k z h3 hz⟩)⟩
      exact ⟨fun _ => J _, fun _ => J _⟩
  have k2 : ∀ (s0 : Int32), ∀ n i a k, i ≤ 2 ^ b → 2 ^ b - i < n → smL k a → w_X4_collectSum_45 (fun (ysum_26 : Nat → Int32) (ysumSize_26 : Int32) => (∀ f_27 : Int32, f_27 = (ysumSize_26 - s0) → post ysum_26 ysumSize_26 f_27)) ac (nI b) as on (nI w) x2 n (nI i) a (nI k) := by
    intro s0 n
    induction n with
    | zero => intro i a k h1 h2; omega
    | succ n ih =>
      intro i a k h1 h2 h3
      rw [w_X4_collectSum_45]
      exact q_apoints hb (pk_le (2 ^ b) i (fun _ f _ => H _ _ _ h3) (fun hlt => ⟨9, k3 _ _ (fun a k hk z hz => by rw [hz, nI_p1 i]; exact ih (i + 1) a k (by omega) (by omega) hk) 9 0 a k (by omega) (by omega) h3⟩))
  have k1 : ∀ n i a k, i ≤ 2 ^ b → 2 ^ b - i < n → smL k a → w_X4_collectSum_7 (fun (ysum_8 : Nat → Int32) (ysumSize_8 : Int32) => (∃ fu : Nat, w_X4_collectSum_45 (fun (ysum_26 : Nat → Int32) (ysumSize_26 : Int32) => (∀ f_27 : Int32, f_27 = (ysumSize_26 - ysumSize_8) → post ysum_26 ysumSize_26 f_27)) ac (nI b) as on (nI w) x2 fu (0 : Int32) ysum_8 ysumSize_8)) ac (nI b) as on (nI w) x2 n (nI i) a (nI k) := by
    intro n
    induction n with
    | zero => intro i a k h1 h2; omega
    | succ n ih =>
      intro i a k h1 h2 h3
      rw [w_X4_collectSum_7]
      exact q_apoints hb (pk_le (2 ^ b) i (fun _ => ⟨129, k2 _ 129 0 a k (Nat.zero_le _) (by omega) h3⟩) (fun hlt => q_aat (fun _ => ⟨fun _ => q_cover hw h3 (fun a k hk z hz => by rw [hz, nI_p1 i]; exact ih (i + 1) a k (by omega) (by omega) hk), fun _ z hz => by rw [hz, nI_p1 i]; exact ih (i + 1) a k (by omega) (by omega) h3⟩)))
  exact ⟨129, k1 129 0 sum 0 (Nat.zero_le _) (by omega) ⟨by omega, fun i hi => absurd hi (by omega)⟩⟩
theorem q_askedInSum {post : Int32 → Prop} {as sum : Nat → Int32} {s : Nat} (hs : smL s sum) (H : ∀ r, post r) : wp_X4_askedInSum post as sum (nI s) := by
  have h672 := hs.1
  have key : ∀ n i a, i ≤ s → s - i < n → w_X4_askedInSum_4 (fun a => post a) as sum (nI s) n a (nI i) := by
    intro n
    induction n with
    | zero => intro i a h1 h2; omega
    | succ n ih =>
      intro i a h1 h2
      refine pk_le s i (fun _ => H _) (fun hlt => ⟨pk_in i 672 (by omega), ?_⟩)
      obtain ⟨j, hj, e⟩ := hs.2 i hlt
      rw [nI_clamp (show i < 2 ^ 31 by omega), e]
      exact ⟨pk_in j 672 hj, q_bitCount (fun _ b _ z hz => by rw [hz, nI_p1 i]; exact ih (i + 1) b (by omega) (by omega))⟩
  exact ⟨s + 1, key (s + 1) 0 _ (by omega) (by omega)⟩
theorem q_ofWide {post : Int32 → Prop} {as on : Nat → Int32} {w : Nat} {x y : Int32} (hw : w ≤ 672) (H : ∀ r, post r) : wp_X4_ofWide post as on (nI w) x y := by
  refine ⟨fun _ => H _, fun a => ⟨fun b => ?_, fun _ => H _⟩⟩
  obtain ⟨j, hj, rfl⟩ := nI_of a
  rw [nI_ltI hj (by omega)] at b
  have hv : vp_in (nI j) 672 := pk_in j 672 (by omega)
  exact ⟨fun _ => ⟨hv, H _⟩, fun _ => ⟨fun _ => ⟨hv, H _⟩, fun _ => H _⟩⟩
theorem q_ofSum {post : Int32 → Prop} {as on sum : Nat → Int32} {w s : Nat} {x y : Int32} (hw : w ≤ 672) (hs : s ≤ 672) (H : ∀ r, post r) : wp_X4_ofSum post as on sum (nI w) (nI s) x y := by
  refine ⟨fun _ => H _, fun a => ⟨fun _ => H _, fun b => ?_⟩⟩
  obtain ⟨j, _, _, hv⟩ := ix_in a b hs (by decide)
  exact ⟨hv, q_ofWide hw (fun _ => H _)⟩
