/-! a normal table: its partings are apart, and not too many -/
theorem nrm_fix {st co : Nat} {E : Nat → Nat → Int32} (hT : okE st co E) (hA : AMS st co E = -1) {s c t : Nat} (hs : s < st) (hc : c < co) (e : E s c = nI t) (ht : t < st) : E t c = nI t := by
  have h6 := hT.1
  have h4 := hT.2.1
  have hn : ¬ E s c = -1 := by rw [e]; exact m1_ne (by omega)
  have ec : (E s c).toNatClampNeg = t := by rw [e]; exact nI_clamp (by omega)
  by_cases q : E t c = E s c
  · rw [q, e]
  · exfalso
    have hx : ¬ fo (amS E s) (c + 1) (fo2 (amS E) co s (-1)) = -1 := by
      rw [fo_s]
      generalize fo (amS E s) c (fo2 (amS E) co s (-1)) = a
      by_cases ea : a = -1
      · unfold amS
        rw [if_neg hn, ec, if_pos ⟨ea, q⟩]
        exact m1_ne (by omega)
      · rw [am_st ea]; exact ea
    exact hx ((am_stay hs hc hx).symm.trans hA)
/-- a parting by numbers: two sets of states, apart -/
def apQ (st : Nat) (a b : Int32) : Prop := ∃ m n, m < 2 ^ st ∧ n < 2 ^ st ∧ m &&& n = 0 ∧ a = nI m ∧ b = nI n
theorem apQ_sw {st : Nat} {a b : Int32} (h : apQ st a b) : apQ st b a := by
  obtain ⟨m, n, h1, h2, h3, h4, h5⟩ := h
  exact ⟨n, m, h2, h1, by rw [Nat.and_comm]; exact h3, h5, h4⟩
theorem i1s_eq {s : Nat} (h : s < 6) : i1s s = nI (2 ^ s) := sh1 s (by omega)
theorem nI_or {a b : Nat} : nI a ||| nI b = nI (a ||| b) := by
  apply Int32.toBitVec_inj.mp
  rw [Int32.toBitVec_or]
  exact BitVec.ofNat_or.symm
theorem nI_and {a b : Nat} : nI a &&& nI b = nI (a &&& b) := by
  apply Int32.toBitVec_inj.mp
  rw [Int32.toBitVec_and]
  exact BitVec.ofNat_and.symm
theorem p2d : ∀ r, r < 6 → ∀ s, s < 6 → r ≠ s → 2 ^ r &&& 2 ^ s = 0 := by decide +kernel
theorem p2e (r : Nat) (hr : r < 6) (t : Nat) (ht : t < 6) (s : Nat) (hs : s < 6) (u : Nat) (hu : u < 6) (h1 : r ≠ s) (h2 : r ≠ u) (h3 : t ≠ s) (h4 : t ≠ u) : (2 ^ r ||| 2 ^ t) &&& (2 ^ s ||| 2 ^ u) = 0 := by
  rw [Nat.and_or_distrib_left, Nat.and_or_distrib_right, Nat.and_or_distrib_right, p2d r hr s hs h1, p2d t ht s hs h3, p2d r hr u hu h2, p2d t ht u hu h4]
  rfl
theorem p2l {r st : Nat} (h : r < st) : 2 ^ r < 2 ^ st := Nat.pow_lt_pow_right (by omega) h
theorem ap_one {st r s : Nat} (h6 : st ≤ 6) (hr : r < st) (hs : s < st) (hn : r ≠ s) : apQ st (i1s r) (i1s s) := ⟨2 ^ r, 2 ^ s, p2l hr, p2l hs, p2d r (by omega) s (by omega) hn, i1s_eq (by omega), i1s_eq (by omega)⟩
theorem ap_two {st r s t u : Nat} (h6 : st ≤ 6) (hr : r < st) (hs : s < st) (ht : t < st) (hu : u < st) (h1 : r ≠ s) (h2 : r ≠ u) (h3 : t ≠ s) (h4 : t ≠ u) : apQ st (i1s r ||| i1s t) (i1s s ||| i1s u) := ⟨2 ^ r ||| 2 ^ t, 2 ^ s ||| 2 ^ u, Nat.or_lt_two_pow (p2l hr) (p2l ht), Nat.or_lt_two_pow (p2l hs) (p2l hu), p2e r (by omega) t (by omega) s (by omega) u (by omega) h1 h2 h3 h4, by rw [i1s_eq (by omega), i1s_eq (by omega), nI_or], by rw [i1s_eq (by omega), i1s_eq (by omega), nI_or]⟩
def alT (T : PT) (Q : Int32 → Int32 → Prop) : Prop := ∀ j, j < T.1 → Q (T.2.1 j) (T.2.2 j)
theorem colF_al {st co : Nat} {E : Nat → Nat → Int32} (hT : okE st co E) (hA : AMS st co E = -1) {r s c : Nat} (hr : r < st) (hs : s < st) (hc : c < co) (hn : r ≠ s) {T : PT} (h : alT T (apQ st)) : alT (colF E r s c T) (apQ st) := by
  have h6 := hT.1
  unfold colF
  split
  · exact h
  · split
    · exact h
    · split
      · exact h
      · next q1 q2 q3 =>
        obtain ⟨t, ht, et⟩ := (hT.2.2 r c hr hc).resolve_left q1
        obtain ⟨u, hu, eu⟩ := (hT.2.2 s c hs hc).resolve_left q2
        have ft := nrm_fix hT hA hr hc et ht
        have fu := nrm_fix hT hA hs hc eu hu
        have htu : t ≠ u := fun e => q3 (by rw [et, eu, e])
        have hru : r ≠ u := fun e => q3 (by rw [eu, ← fu, e])
        have hts : t ≠ s := fun e => q3 (by rw [et, ← ft, e])
        have ap := ap_two h6 hr hs ht hu hn hru hts htu
        rw [et, eu]
        exact addF_al h ap (apQ_sw ap)
theorem fo_al {f : Nat → PT → PT} {Q : Int32 → Int32 → Prop} {n : Nat} {T : PT} (hf : ∀ i T, i < n → alT T Q → alT (f i T) Q) (h : alT T Q) : alT (fo f n T) Q := fo_ind (P := fun _ T => alT T Q) h (fun i T hi h => hf i T hi h)
theorem PF_al {st co : Nat} {E : Nat → Nat → Int32} (hT : okE st co E) (hA : AMS st co E = -1) : alT (PF st co E) (apQ st) :=
  fo_al (f := rowF st co E) (fun r T hr h => fo_al (f := fun j T => pairF co E r (r + 1 + j) T) (fun j T hj h => fo_al (f := colF E r (r + 1 + j)) (fun c T hc h => colF_al hT hA hr (by omega) hc (by omega) h) (by
    have ap := ap_one hT.1 hr (show r + 1 + j < st by omega) (by omega)
    exact addF_al h ap (apQ_sw ap))) h) (fun j hj => absurd hj (Nat.not_lt_zero j))
/-! counting -/
def sm (f : Nat → Nat) : Nat → Nat
  | 0 => 0
  | n + 1 => sm f n + f n
theorem sm_le {f g : Nat → Nat} {n : Nat} (h : ∀ i, i < n → f i ≤ g i) : sm f n ≤ sm g n := by
  induction n with
  | zero => exact Nat.le_refl _
  | succ n ih =>
    have := ih (fun i hi => h i (by omega))
    have := h n (by omega)
    rw [sm, sm]
    omega
theorem sm_add (f g : Nat → Nat) (n : Nat) : sm (fun i => f i + g i) n = sm f n + sm g n := by
  induction n with
  | zero => rfl
  | succ n ih => rw [sm, sm, sm, ih]; omega
theorem sm_0 (n : Nat) : sm (fun _ => 0) n = 0 := by
  induction n with
  | zero => rfl
  | succ n ih => rw [sm, ih]
theorem sm_com (f : Nat → Nat → Nat) (m n : Nat) : sm (fun i => sm (fun j => f i j) n) m = sm (fun j => sm (fun i => f i j) m) n := by
  induction m with
  | zero => rw [sm]; exact (sm_0 n).symm
  | succ m ih =>
    rw [sm, ih, ← sm_add]
    rfl
theorem sm_b {f : Nat → Nat} {b n : Nat} (h : ∀ i, i < n → f i ≤ b) : sm f n ≤ n * b := by
  induction n with
  | zero => exact Nat.zero_le _
  | succ n ih =>
    have := ih (fun i hi => h i (by omega))
    have := h n (by omega)
    rw [sm, Nat.succ_mul]
    omega
theorem fo_sm {f : Nat → PT → PT} {n : Nat} {T : PT} {w : Nat → Nat} (h : ∀ i T, i < n → (f i T).1 ≤ T.1 + w i) : (fo f n T).1 ≤ T.1 + sm w n := by
  induction n with
  | zero => exact Nat.le_refl _
  | succ n ih =>
    have a := ih (fun i T hi => h i T (by omega))
    have b := h n (fo f n T) (by omega)
    rw [fo_s, sm]
    omega
/-- whether two moves of a column may bring a parting more -/
def wN (E : Nat → Nat → Int32) (c r s : Nat) : Nat := if E r c = -1 ∨ E s c = -1 ∨ E r c = E s c ∨ (E r c = nI r ∧ E s c = nI s) then 0 else 1
theorem colF_cv {E : Nat → Nat → Int32} {r s c : Nat} {T : PT} {a b : Int32} (h : covP T a b) : covP (colF E r s c T) a b := by
  unfold colF
  split
  · exact h
  · split
    · exact h
    · split
      · exact h
      · exact putF_ex h
theorem i32_or_self (x : Int32) : x ||| x = x := bq_ext (fun i _ => by rw [bq_or, Bool.or_self])
theorem colF_w {E : Nat → Nat → Int32} {r s c : Nat} {T : PT} (h : covP T (i1s r) (i1s s)) : (colF E r s c T).1 ≤ T.1 + wN E c r s := by
  by_cases q : E r c = -1 ∨ E s c = -1 ∨ E r c = E s c ∨ (E r c = nI r ∧ E s c = nI s)
  · unfold wN
    rw [if_pos q]
    unfold colF
    split
    · omega
    · next q1 =>
      split
      · omega
      · next q2 =>
        split
        · omega
        · next q3 =>
          rcases q with q | q | q | ⟨q4, q5⟩
          · exact absurd q q1
          · exact absurd q q2
          · exact absurd q q3
          · rw [q4, q5]
            show (addF T (i1s r ||| i1s r) (i1s s ||| i1s s)).1 ≤ _
            rw [i32_or_self, i32_or_self, addF_cov h]
            omega
  · unfold wN
    rw [if_neg q]
    exact colF_le E r s c T
theorem pairF_w {co : Nat} {E : Nat → Nat → Int32} {r s : Nat} (T : PT) : (pairF co E r s T).1 ≤ T.1 + (1 + sm (fun c => wN E c r s) co) := by
  have h := fo_ind (f := colF E r s) (n := co) (a := addF T (i1s r) (i1s s)) (P := fun i S => covP S (i1s r) (i1s s) ∧ S.1 ≤ (addF T (i1s r) (i1s s)).1 + sm (fun c => wN E c r s) i) ⟨addF_has _ _ _, Nat.le_refl _⟩ (fun i S _ hS => ⟨colF_cv hS.1, by
    have := colF_w (E := E) (c := i) hS.1
    have := hS.2
    rw [sm]
    omega⟩)
  have h2 := addF_le T (i1s r) (i1s s)
  have h3 := h.2
  unfold pairF
  omega
/-! one column: at most twelve -/
def wP (l : List Nat) (r s : Nat) : Nat := if l.getD r 0 = 0 ∨ l.getD s 0 = 0 ∨ l.getD r 0 = l.getD s 0 ∨ (l.getD r 0 = r + 1 ∧ l.getD s 0 = s + 1) then 0 else 1
def cnP (l : List Nat) : Nat := sm (fun r => sm (fun j => wP l r (r + 1 + j)) (6 - (r + 1))) 6
def ckP (m : Nat) : Nat → List Nat → Bool
  | 0, l => Nat.ble (cnP l) 12
  | k + 1, l => if m.testBit k then ckP m k ((k + 1) :: l) else ckP m k (0 :: l) && (List.range 6).all (fun t => !m.testBit t || ckP m k ((t + 1) :: l))
theorem ckP_all : (List.range 64).all (fun m => ckP m 6 []) = true := by decide +kernel
theorem ckP_so {m : Nat} {φ : Nat → Nat} (h : ∀ s, s < 6 → (m.testBit s = true → φ s = s + 1) ∧ (m.testBit s = false → φ s = 0 ∨ ∃ t, t < 6 ∧ m.testBit t = true ∧ φ s = t + 1)) : ∀ k l, k ≤ 6 → ckP m k l = true → cnP ((List.range k).map φ ++ l) ≤ 12 := by
  intro k
  induction k with
  | zero => intro l _ h; exact Nat.le_of_ble_eq_true h
  | succ k ih =>
    intro l hk hc
    rw [List.range_succ, List.map_append, List.append_assoc]
    have goal : ∀ x, φ k = x → ckP m k (x :: l) = true → cnP ((List.range k).map φ ++ ([k].map φ ++ l)) ≤ 12 := fun x e hx => by
      show cnP ((List.range k).map φ ++ (φ k :: l)) ≤ 12
      rw [e]
      exact ih _ (by omega) hx
    rw [ckP] at hc
    cases hb : m.testBit k with
    | true =>
      rw [hb, if_pos rfl] at hc
      exact goal _ ((h k (by omega)).1 hb) hc
    | false =>
      rw [hb, if_neg (by decide), Bool.and_eq_true] at hc
      rcases (h k (by omega)).2 hb with e | ⟨t, ht, e1, e2⟩
      · exact goal _ e hc.1
      · have := List.all_eq_true.mp hc.2 t (List.mem_range.mpr ht)
        rw [e1] at this
        exact goal _ e2 (by simpa using this)
theorem mask_of (p : Nat → Bool) : ∀ n, ∃ m, m < 2 ^ n ∧ ∀ s, s < n → m.testBit s = p s := by
  intro n
  induction n with
  | zero => exact ⟨0, by decide, fun s hs => absurd hs (Nat.not_lt_zero s)⟩
  | succ n ih =>
    obtain ⟨m, hm, hb⟩ := ih
    cases e : p n with
    | false =>
      refine ⟨m, Nat.lt_of_lt_of_le hm (Nat.pow_le_pow_right (by omega) (by omega)), fun s hs => ?_⟩
      by_cases es : s = n
      · rw [es, e]; exact Nat.testBit_lt_two_pow hm
      · exact hb s (by omega)
    | true =>
      refine ⟨2 ^ n + m, by rw [Nat.pow_succ]; omega, fun s hs => ?_⟩
      by_cases es : s = n
      · rw [es, e, Nat.testBit_two_pow_add_eq, Nat.testBit_lt_two_pow hm]; rfl
      · rw [Nat.testBit_two_pow_add_gt (by omega)]; exact hb s (by omega)
theorem getD_map {φ : Nat → Nat} {i n : Nat} (h : i < n) : ((List.range n).map φ ++ []).getD i 0 = φ i := by
  rw [List.append_nil, List.getD_eq_getElem?_getD, List.getElem?_map, List.getElem?_range h]
  rfl
theorem col_12 {st co c : Nat} {E : Nat → Nat → Int32} (hT : okE st co E) (hA : AMS st co E = -1) (hc : c < co) : sm (fun r => sm (fun j => wN E c r (r + 1 + j)) (st - (r + 1))) st ≤ 12 := by
  have h6 := hT.1
  let φ : Nat → Nat := fun s => if s < st then (if E s c = -1 then 0 else (E s c).toNatClampNeg + 1) else 0
  obtain ⟨m, hm, hb⟩ := mask_of (fun s => decide (φ s = s + 1)) 6
  have hφ : ∀ s, s < st → (E s c = -1 ∧ φ s = 0) ∨ ∃ t, t < st ∧ E s c = nI t ∧ φ s = t + 1 := by
    intro s hs
    rcases hT.2.2 s c hs hc with e | ⟨t, ht, e⟩
    · exact Or.inl ⟨e, by show (if s < st then (if E s c = -1 then 0 else (E s c).toNatClampNeg + 1) else 0) = 0; rw [if_pos hs, if_pos e]⟩
    · refine Or.inr ⟨t, ht, e, ?_⟩
      show (if s < st then (if E s c = -1 then 0 else (E s c).toNatClampNeg + 1) else 0) = t + 1
      rw [if_pos hs, if_neg (by rw [e]; exact m1_ne (by omega)), e, nI_clamp (by omega)]
  have hb' : ∀ s, s < 6 → (m.testBit s = true ↔ φ s = s + 1) := fun s hs => by rw [hb s hs]; exact decide_eq_true_iff
  have hk := ckP_so (m := m) (φ := φ) (fun s hs => ⟨fun q => (hb' s hs).mp q, fun q => by
    by_cases h : s < st
    · rcases hφ s h with ⟨_, e⟩ | ⟨t, ht, e, e2⟩
      · exact Or.inl e
      · refine Or.inr ⟨t, by omega, ?_, e2⟩
        rw [hb' t (by omega)]
        have ft := nrm_fix hT hA h hc e ht
        rcases hφ t ht with ⟨e3, _⟩ | ⟨u, hu, e3, e4⟩
        · exact absurd (ft.symm.trans e3) (m1_ne (by omega))
        · rw [e4, nI_ij (by omega) (by omega) (e3.symm.trans ft)]
    · left
      show (if s < st then (if E s c = -1 then 0 else (E s c).toNatClampNeg + 1) else 0) = 0
      rw [if_neg h]⟩) 6 [] (Nat.le_refl _) (List.all_eq_true.mp ckP_all m (List.mem_range.mpr hm))
  refine Nat.le_trans ?_ hk
  unfold cnP
  have le1 : ∀ (f : Nat → Nat) (a b : Nat), a ≤ b → sm f a ≤ sm f b := by
    intro f a b h
    induction b with
    | zero => rw [show a = 0 by omega]; exact Nat.le_refl _
    | succ b ih =>
      by_cases e : a = b + 1
      · rw [e]; exact Nat.le_refl _
      · have := ih (by omega)
        rw [sm]
        omega
  refine Nat.le_trans (sm_le (fun r hr => Nat.le_trans (sm_le (fun j hj => ?_)) (le1 _ _ (6 - (r + 1)) (by omega)))) (le1 _ _ _ h6)
  unfold wN wP
  rw [getD_map (show r < 6 by omega), getD_map (show r + 1 + j < 6 by omega)]
  rcases hφ r hr with ⟨e, _⟩ | ⟨t, ht, e1, e2⟩
  · rw [if_pos (Or.inl e)]; exact Nat.zero_le _
  · rcases hφ (r + 1 + j) (by omega) with ⟨e, _⟩ | ⟨u, hu, e3, e4⟩
    · rw [if_pos (Or.inr (Or.inl e))]; exact Nat.zero_le _
    · by_cases q : E r c = -1 ∨ E (r + 1 + j) c = -1 ∨ E r c = E (r + 1 + j) c ∨ (E r c = nI r ∧ E (r + 1 + j) c = nI (r + 1 + j))
      · rw [if_pos q]; exact Nat.zero_le _
      · rw [if_neg q, if_neg]
        · exact Nat.le_refl _
        · rw [e2, e4]
          intro h
          apply q
          rcases h with h | h | h | ⟨h1, h2⟩
          · omega
          · omega
          · exact Or.inr (Or.inr (Or.inl (by rw [e1, e3, show t = u by omega])))
          · exact Or.inr (Or.inr (Or.inr ⟨by rw [e1, show t = r by omega], by rw [e3, show u = r + 1 + j by omega]⟩))
theorem PF_63 {st co : Nat} {E : Nat → Nat → Int32} (hT : okE st co E) (hA : AMS st co E = -1) : (PF st co E).1 ≤ 63 := by
  have h6 := hT.1
  have h4 := hT.2.1
  have a : (PF st co E).1 ≤ 0 + sm (fun r => sm (fun j => 1 + sm (fun c => wN E c r (r + 1 + j)) co) (st - (r + 1))) st :=
    fo_sm (f := rowF st co E) (fun r T _ => fo_sm (f := fun j T => pairF co E r (r + 1 + j) T) (fun j T _ => pairF_w T))
  have b : sm (fun r => sm (fun j => 1 + sm (fun c => wN E c r (r + 1 + j)) co) (st - (r + 1))) st = sm (fun r => sm (fun j => 1) (st - (r + 1))) st + sm (fun c => sm (fun r => sm (fun j => wN E c r (r + 1 + j)) (st - (r + 1))) st) co := by
    rw [← sm_com, ← sm_add]
    congr 1
    funext r
    rw [sm_add, sm_com]
  have c : sm (fun c => sm (fun r => sm (fun j => wN E c r (r + 1 + j)) (st - (r + 1))) st) co ≤ co * 12 := sm_b (fun c hc => col_12 hT hA hc)
  have d : sm (fun r => sm (fun j => 1) (st - (r + 1))) st ≤ 15 := by
    have : ∀ st, st < 7 → sm (fun r => sm (fun j => 1) (st - (r + 1))) st ≤ 15 := by decide +kernel
    exact this st (by omega)
  omega
