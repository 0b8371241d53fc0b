/-! the partings: the same from equal windows; what they are -/
def eqT (T S : PT) : Prop := T.1 = S.1 ∧ ∀ j, j < T.1 → T.2.1 j = S.2.1 j ∧ T.2.2 j = S.2.2 j
theorem drop_cg {n : Nat} {x y : Int32} {l h l2 h2 : Nat → Int32} (hw : ∀ j, j < n → l j = l2 j ∧ h j = h2 j) : ∀ i, i ≤ n → (fo (dropS x y) i (0, l, h)).1 = (fo (dropS x y) i (0, l2, h2)).1 ∧ ∀ j, j < n → (fo (dropS x y) i (0, l, h)).2.1 j = (fo (dropS x y) i (0, l2, h2)).2.1 j ∧ (fo (dropS x y) i (0, l, h)).2.2 j = (fo (dropS x y) i (0, l2, h2)).2.2 j := by
  intro i
  induction i with
  | zero => intro _; exact ⟨rfl, hw⟩
  | succ i ih =>
    intro hi
    have ih := ih (by omega)
    rw [fo_s, fo_s]
    revert ih
    generalize fo (dropS x y) i (0, l, h) = S
    generalize fo (dropS x y) i (0, l2, h2) = S2
    rintro ⟨e1, e2⟩
    obtain ⟨a, b⟩ := e2 i (by omega)
    by_cases q : isI (S.2.1 i) (S.2.2 i) x y
    · rw [dropS_in q, dropS_in (T := S2) (by rw [← a, ← b]; exact q)]
      exact ⟨e1, e2⟩
    · rw [dropS_out q, dropS_out (T := S2) (by rw [← a, ← b]; exact q)]
      refine ⟨by show S.1 + 1 = S2.1 + 1; rw [e1], fun j hj => ?_⟩
      show upd S.2.1 S.1 (S.2.1 i) j = upd S2.2.1 S2.1 (S2.2.1 i) j ∧ upd S.2.2 S.1 (S.2.2 i) j = upd S2.2.2 S2.1 (S2.2.2 i) j
      rw [← e1]
      by_cases ej : j = S.1
      · rw [ej, pk_us, pk_us, pk_us, pk_us]
        exact ⟨a, b⟩
      · rw [pk_un ej, pk_un ej, pk_un ej, pk_un ej]
        exact e2 j hj
theorem ins_cg {x y : Int32} {k : Nat} : ∀ (p : Nat) (l h l2 h2 : Nat → Int32), p ≤ k → (∀ j, j ≤ k → j ≠ p → l j = l2 j ∧ h j = h2 j) → ∀ j, j ≤ k → (insF x y p l h).1 j = (insF x y p l2 h2).1 j ∧ (insF x y p l h).2 j = (insF x y p l2 h2).2 j := by
  have fin : ∀ (p : Nat) (l h l2 h2 : Nat → Int32), (∀ j, j ≤ k → j ≠ p → l j = l2 j ∧ h j = h2 j) → ∀ j, j ≤ k → upd l p x j = upd l2 p x j ∧ upd h p y j = upd h2 p y j := by
    intro p l h l2 h2 hw j hj
    by_cases e : j = p
    · rw [e, pk_us, pk_us, pk_us, pk_us]; exact ⟨rfl, rfl⟩
    · rw [pk_un e, pk_un e, pk_un e, pk_un e]; exact hw j hj e
  intro p
  induction p with
  | zero => intro l h l2 h2 _ hw; exact fin 0 l h l2 h2 hw
  | succ p ih =>
    intro l h l2 h2 hp hw
    obtain ⟨a, b⟩ := hw p (by omega) (by omega)
    rw [insF, insF]
    by_cases q : bhI (l p) (h p) x y
    · rw [if_pos q, if_pos (by rw [← a, ← b]; exact q)]
      refine ih _ _ _ _ (by omega) (fun j hj hn => ?_)
      by_cases e : j = p + 1
      · rw [e, pk_us, pk_us, pk_us, pk_us]; exact ⟨a, b⟩
      · rw [pk_un e, pk_un e, pk_un e, pk_un e]; exact hw j hj e
    · rw [if_neg q, if_neg (by rw [← a, ← b]; exact q)]
      exact fin (p + 1) l h l2 h2 hw
theorem putF_cg {T S : PT} {x y : Int32} (h : eqT T S) : eqT (putF T x y) (putF S x y) := by
  obtain ⟨e1, e2⟩ := id h
  by_cases q : covP T x y
  · have q2 : covP S x y := by
      obtain ⟨i, hi, r⟩ := q
      obtain ⟨a, b⟩ := e2 i hi
      exact ⟨i, by omega, by rw [← a, ← b]; exact r⟩
    rw [putF_c q, putF_c q2]
    exact h
  · have q2 : ¬ covP S x y := by
      rintro ⟨i, hi, r⟩
      obtain ⟨a, b⟩ := e2 i (by omega)
      exact q ⟨i, by omega, by rw [a, b]; exact r⟩
    rw [putF_n q, putF_n q2]
    obtain ⟨d1, d2⟩ := drop_cg (x := x) (y := y) e2 T.1 (Nat.le_refl _)
    have hk := dropS_le x y T.1 (0, T.2.1, T.2.2)
    have hk : (fo (dropS x y) T.1 (0, T.2.1, T.2.2)).1 ≤ T.1 := by simpa using hk
    unfold newF
    rw [← e1]
    revert d1 d2 hk
    generalize fo (dropS x y) T.1 (0, T.2.1, T.2.2) = A
    generalize fo (dropS x y) T.1 (0, S.2.1, S.2.2) = B
    intro d1 d2 hk
    refine ⟨by show A.1 + 1 = B.1 + 1; rw [d1], fun j hj => ?_⟩
    have hj : j < A.1 + 1 := hj
    show (insF x y A.1 A.2.1 A.2.2).1 j = (insF x y B.1 B.2.1 B.2.2).1 j ∧ (insF x y A.1 A.2.1 A.2.2).2 j = (insF x y B.1 B.2.1 B.2.2).2 j
    rw [← d1]
    exact ins_cg A.1 _ _ _ _ (Nat.le_refl _) (fun j hj hn => d2 j (by omega)) j (by omega)
theorem fo_eqT {f : Nat → PT → PT} (hf : ∀ i T S, eqT T S → eqT (f i T) (f i S)) (n : Nat) {T S : PT} (h : eqT T S) : eqT (fo f n T) (fo f n S) := by
  induction n with
  | zero => exact h
  | succ n ih => exact hf n _ _ ih
theorem addF_cg {T S : PT} {x y : Int32} (h : eqT T S) : eqT (addF T x y) (addF S x y) := putF_cg h
theorem colF_cg {E : Nat → Nat → Int32} {r s c : Nat} {T S : PT} (h : eqT T S) : eqT (colF E r s c T) (colF E r s c S) := by
  unfold colF
  split
  · exact h
  · split
    · exact h
    · split
      · exact h
      · exact addF_cg h
theorem gatF_cg {st co : Nat} {E : Nat → Nat → Int32} {T S : PT} (h : eqT T S) : eqT (gatF st co E T) (gatF st co E S) :=
  fo_eqT (f := rowF st co E) (fun r _ _ h => fo_eqT (f := fun j T => pairF co E r (r + 1 + j) T) (fun j _ _ h => fo_eqT (f := colF E r (r + 1 + j)) (fun c _ _ h => colF_cg h) co (addF_cg h)) (st - (r + 1)) h) st h
noncomputable def PF (st co : Nat) (E : Nat → Nat → Int32) : PT := gatF st co E (0, fun _ => 0, fun _ => 0)
theorem PF_eq (st co : Nat) (E : Nat → Nat → Int32) (lo hi : Nat → Int32) : eqT (gatF st co E (0, lo, hi)) (PF st co E) := gatF_cg ⟨rfl, fun j hj => absurd hj (Nat.not_lt_zero j)⟩
/-! bits -/
def bq (x : Int32) (i : Nat) : Bool := x.toBitVec.getLsbD i
theorem bq_and (x y : Int32) (i : Nat) : bq (x &&& y) i = (bq x i && bq y i) := by unfold bq; rw [Int32.toBitVec_and, BitVec.getLsbD_and]
theorem bq_or (x y : Int32) (i : Nat) : bq (x ||| y) i = (bq x i || bq y i) := by unfold bq; rw [Int32.toBitVec_or, BitVec.getLsbD_or]
theorem bq_xor (x y : Int32) (i : Nat) : bq (x ^^^ y) i = ((bq x i) ^^ (bq y i)) := by unfold bq; rw [Int32.toBitVec_xor, BitVec.getLsbD_xor]
theorem bq_m1 {i : Nat} (h : i < 32) : bq (-1) i = true := by
  unfold bq
  rw [show (-1 : Int32).toBitVec = BitVec.allOnes 32 from rfl, BitVec.getLsbD_allOnes]
  exact decide_eq_true h
theorem bq_0 (i : Nat) : bq 0 i = false := by
  unfold bq
  rw [show (0 : Int32).toBitVec = 0#32 from rfl, BitVec.getLsbD_zero]
theorem bq_ext {x y : Int32} (h : ∀ i, i < 32 → bq x i = bq y i) : x = y := by
  apply Int32.toBitVec_inj.mp
  exact BitVec.eq_of_getLsbD_eq h
theorem sub_iff {a c : Int32} : (a &&& (c ^^^ (-1))) = 0 ↔ ∀ i, i < 32 → bq a i = true → bq c i = true := by
  constructor
  · intro h i hi ha
    have := congrArg (fun x => bq x i) h
    simp only [bq_and, bq_xor, bq_m1 hi, bq_0, ha] at this
    cases hc : bq c i
    · rw [hc] at this; exact absurd this (by decide)
    · rfl
  · intro h
    refine bq_ext (fun i hi => ?_)
    rw [bq_and, bq_xor, bq_m1 hi, bq_0]
    cases ha : bq a i
    · rfl
    · rw [h i hi ha]; rfl
theorem sub_tr {a b c : Int32} (h1 : (a &&& (b ^^^ (-1))) = 0) (h2 : (b &&& (c ^^^ (-1))) = 0) : (a &&& (c ^^^ (-1))) = 0 := by
  rw [sub_iff] at *
  exact fun i hi q => h2 i hi (h1 i hi q)
theorem sub_rf (a : Int32) : (a &&& (a ^^^ (-1))) = 0 := sub_iff.mpr (fun _ _ h => h)
theorem isI_tr {a b c d e f : Int32} (h1 : isI a b c d) (h2 : isI c d e f) : isI a b e f := by
  rcases h1 with ⟨p, q⟩ | ⟨p, q⟩ <;> rcases h2 with ⟨r, s⟩ | ⟨r, s⟩
  · exact Or.inl ⟨sub_tr p r, sub_tr q s⟩
  · exact Or.inr ⟨sub_tr p r, sub_tr q s⟩
  · exact Or.inr ⟨sub_tr p s, sub_tr q r⟩
  · exact Or.inl ⟨sub_tr p s, sub_tr q r⟩
theorem isI_rf (a b : Int32) : isI a b a b := Or.inl ⟨sub_rf a, sub_rf b⟩
theorem isI_sw {a b c d : Int32} (h : isI a b c d) : isI b a c d := h.elim (fun h => Or.inr ⟨h.2, h.1⟩) (fun h => Or.inl ⟨h.2, h.1⟩)
/-! what is in it -/
theorem drop_al {x y : Int32} {n : Nat} {l h : Nat → Int32} {Q : Int32 → Int32 → Prop} (hQ : ∀ j, j < n → Q (l j) (h j)) : ∀ j, j < (fo (dropS x y) n (0, l, h)).1 → Q ((fo (dropS x y) n (0, l, h)).2.1 j) ((fo (dropS x y) n (0, l, h)).2.2 j) := by
  have := fo_ind (f := dropS x y) (n := n) (a := (0, l, h)) (P := fun i S => S.1 ≤ i ∧ (∀ j, i ≤ j → S.2.1 j = l j ∧ S.2.2 j = h j) ∧ ∀ j, j < S.1 → Q (S.2.1 j) (S.2.2 j)) ⟨Nat.le_refl _, fun j _ => ⟨rfl, rfl⟩, fun j hj => absurd hj (Nat.not_lt_zero j)⟩ (fun i S hi hS => by
    obtain ⟨h1, h2, h3⟩ := hS
    by_cases q : isI (S.2.1 i) (S.2.2 i) x y
    · rw [dropS_in q]
      exact ⟨by omega, fun j hj => h2 j (by omega), h3⟩
    · rw [dropS_out q]
      refine ⟨by show S.1 + 1 ≤ i + 1; omega, fun j hj => ?_, fun j hj => ?_⟩
      · show upd S.2.1 S.1 _ j = _ ∧ upd S.2.2 S.1 _ j = _
        rw [pk_un (by omega), pk_un (by omega)]
        exact h2 j (by omega)
      · have hj : j < S.1 + 1 := hj
        show Q (upd S.2.1 S.1 _ j) (upd S.2.2 S.1 _ j)
        by_cases e : j = S.1
        · rw [e, pk_us, pk_us, (h2 i (Nat.le_refl _)).1, (h2 i (Nat.le_refl _)).2]
          exact hQ i hi
        · rw [pk_un e, pk_un e]
          exact h3 j (by omega))
  exact this.2.2
theorem drop_ex {x y : Int32} {n : Nat} {l h : Nat → Int32} : ∀ m, m < n → isI (l m) (h m) x y ∨ ∃ j, j < (fo (dropS x y) n (0, l, h)).1 ∧ (fo (dropS x y) n (0, l, h)).2.1 j = l m ∧ (fo (dropS x y) n (0, l, h)).2.2 j = h m := by
  have := fo_ind (f := dropS x y) (n := n) (a := (0, l, h)) (P := fun i S => S.1 ≤ i ∧ (∀ j, i ≤ j → S.2.1 j = l j ∧ S.2.2 j = h j) ∧ ∀ m, m < i → isI (l m) (h m) x y ∨ ∃ j, j < S.1 ∧ S.2.1 j = l m ∧ S.2.2 j = h m) ⟨Nat.le_refl _, fun j _ => ⟨rfl, rfl⟩, fun j hj => absurd hj (Nat.not_lt_zero j)⟩ (fun i S hi hS => by
    obtain ⟨h1, h2, h3⟩ := hS
    obtain ⟨a, b⟩ := h2 i (Nat.le_refl _)
    by_cases q : isI (S.2.1 i) (S.2.2 i) x y
    · rw [dropS_in q]
      refine ⟨by omega, fun j hj => h2 j (by omega), fun m hm => ?_⟩
      by_cases e : m = i
      · rw [e, ← a, ← b]; exact Or.inl q
      · exact h3 m (by omega)
    · rw [dropS_out q]
      refine ⟨by show S.1 + 1 ≤ i + 1; omega, fun j hj => ?_, fun m hm => ?_⟩
      · show upd S.2.1 S.1 _ j = _ ∧ upd S.2.2 S.1 _ j = _
        rw [pk_un (by omega), pk_un (by omega)]
        exact h2 j (by omega)
      · by_cases e : m = i
        · refine Or.inr ⟨S.1, Nat.lt_succ_self _, ?_⟩
          show upd S.2.1 S.1 _ S.1 = _ ∧ upd S.2.2 S.1 _ S.1 = _
          rw [pk_us, pk_us, e]
          exact ⟨a, b⟩
        · rcases h3 m (by omega) with c | ⟨j, hj, e1, e2⟩
          · exact Or.inl c
          · refine Or.inr ⟨j, Nat.lt_succ_of_lt hj, ?_⟩
            show upd S.2.1 S.1 _ j = _ ∧ upd S.2.2 S.1 _ j = _
            rw [pk_un (by omega), pk_un (by omega)]
            exact ⟨e1, e2⟩)
  exact this.2.2
theorem ins_al {x y : Int32} {k : Nat} {Q : Int32 → Int32 → Prop} (hx : Q x y) : ∀ (p : Nat) (l h : Nat → Int32), p ≤ k → (∀ j, j ≤ k → j ≠ p → Q (l j) (h j)) → ∀ j, j ≤ k → Q ((insF x y p l h).1 j) ((insF x y p l h).2 j) := by
  have fin : ∀ (p : Nat) (l h : Nat → Int32), (∀ j, j ≤ k → j ≠ p → Q (l j) (h j)) → ∀ j, j ≤ k → Q (upd l p x j) (upd h p y j) := by
    intro p l h hw j hj
    by_cases e : j = p
    · rw [e, pk_us, pk_us]; exact hx
    · rw [pk_un e, pk_un e]; exact hw j hj e
  intro p
  induction p with
  | zero => intro l h _ hw; exact fin 0 l h hw
  | succ p ih =>
    intro l h hp hw
    rw [insF]
    by_cases q : bhI (l p) (h p) x y
    · rw [if_pos q]
      refine ih _ _ (by omega) (fun j hj hn => ?_)
      by_cases e : j = p + 1
      · rw [e, pk_us, pk_us]; exact hw p (by omega) (by omega)
      · rw [pk_un e, pk_un e]; exact hw j hj e
    · rw [if_neg q]
      exact fin (p + 1) l h hw
theorem ins_ex {x y a b : Int32} {k : Nat} : ∀ (p : Nat) (l h : Nat → Int32), p ≤ k → (∃ j, j ≤ k ∧ j ≠ p ∧ l j = a ∧ h j = b) → ∃ j, j ≤ k ∧ (insF x y p l h).1 j = a ∧ (insF x y p l h).2 j = b := by
  have fin : ∀ (p : Nat) (l h : Nat → Int32), (∃ j, j ≤ k ∧ j ≠ p ∧ l j = a ∧ h j = b) → ∃ j, j ≤ k ∧ upd l p x j = a ∧ upd h p y j = b := by
    rintro p l h ⟨j, hj, hn, e1, e2⟩
    exact ⟨j, hj, by rw [pk_un hn]; exact e1, by rw [pk_un hn]; exact e2⟩
  intro p
  induction p with
  | zero => intro l h _ hw; exact fin 0 l h hw
  | succ p ih =>
    intro l h hp hw
    rw [insF]
    by_cases q : bhI (l p) (h p) x y
    · rw [if_pos q]
      obtain ⟨j, hj, hn, e1, e2⟩ := hw
      refine ih _ _ (by omega) ?_
      by_cases e : j = p
      · exact ⟨p + 1, by omega, by omega, by rw [pk_us, ← e]; exact e1, by rw [pk_us, ← e]; exact e2⟩
      · exact ⟨j, hj, e, by rw [pk_un hn]; exact e1, by rw [pk_un hn]; exact e2⟩
    · rw [if_neg q]
      exact fin (p + 1) l h hw
theorem ins_has {x y : Int32} {k : Nat} : ∀ (p : Nat) (l h : Nat → Int32), p ≤ k → ∃ j, j ≤ k ∧ (insF x y p l h).1 j = x ∧ (insF x y p l h).2 j = y := by
  intro p
  induction p with
  | zero => intro l h _; exact ⟨0, Nat.zero_le _, (pk_us : upd l 0 x 0 = x), (pk_us : upd h 0 y 0 = y)⟩
  | succ p ih =>
    intro l h hp
    rw [insF]
    by_cases q : bhI (l p) (h p) x y
    · rw [if_pos q]
      exact ih _ _ (by omega)
    · rw [if_neg q]
      exact ⟨p + 1, hp, pk_us, pk_us⟩
theorem putF_al {T : PT} {x y : Int32} {Q : Int32 → Int32 → Prop} (hQ : ∀ j, j < T.1 → Q (T.2.1 j) (T.2.2 j)) (hx : Q x y) : ∀ j, j < (putF T x y).1 → Q ((putF T x y).2.1 j) ((putF T x y).2.2 j) := by
  by_cases q : covP T x y
  · rw [putF_c q]; exact hQ
  · rw [putF_n q]
    have hd := drop_al (x := x) (y := y) (n := T.1) (l := T.2.1) (h := T.2.2) (Q := Q) hQ
    unfold newF
    revert hd
    generalize fo (dropS x y) T.1 (0, T.2.1, T.2.2) = A
    intro hd j hj
    have hj : j < A.1 + 1 := hj
    exact ins_al hx A.1 _ _ (Nat.le_refl _) (fun j hj hn => hd j (by omega)) j (by omega)
theorem putF_ex {T : PT} {x y a b : Int32} (h : covP T a b) : covP (putF T x y) a b := by
  by_cases q : covP T x y
  · rw [putF_c q]; exact h
  · rw [putF_n q]
    obtain ⟨i, hi, r⟩ := h
    have hd := drop_ex (x := x) (y := y) (l := T.2.1) (h := T.2.2) i hi
    unfold newF
    revert hd
    generalize fo (dropS x y) T.1 (0, T.2.1, T.2.2) = A
    rintro (hd | ⟨j, hj, e1, e2⟩)
    · obtain ⟨j, hj, e1, e2⟩ := ins_has (x := x) (y := y) A.1 A.2.1 A.2.2 (Nat.le_refl _)
      refine ⟨j, Nat.lt_succ_of_le hj, ?_⟩
      show isI a b ((insF x y A.1 A.2.1 A.2.2).1 j) ((insF x y A.1 A.2.1 A.2.2).2 j)
      rw [e1, e2]
      exact isI_tr r hd
    · obtain ⟨m, hm, f1, f2⟩ := ins_ex (x := x) (y := y) A.1 A.2.1 A.2.2 (Nat.le_refl _) ⟨j, by omega, by omega, e1, e2⟩
      refine ⟨m, Nat.lt_succ_of_le hm, ?_⟩
      show isI a b ((insF x y A.1 A.2.1 A.2.2).1 m) ((insF x y A.1 A.2.1 A.2.2).2 m)
      rw [f1, f2]
      exact r
theorem putF_has (T : PT) (x y : Int32) : covP (putF T x y) x y := by
  by_cases q : covP T x y
  · rw [putF_c q]; exact q
  · rw [putF_n q]
    unfold newF
    generalize fo (dropS x y) T.1 (0, T.2.1, T.2.2) = A
    obtain ⟨j, hj, e1, e2⟩ := ins_has (x := x) (y := y) A.1 A.2.1 A.2.2 (Nat.le_refl _)
    refine ⟨j, Nat.lt_succ_of_le hj, ?_⟩
    show isI x y ((insF x y A.1 A.2.1 A.2.2).1 j) ((insF x y A.1 A.2.1 A.2.2).2 j)
    rw [e1, e2]
    exact isI_rf x y
theorem covP_sw {T : PT} {x y : Int32} (h : covP T x y) : covP T y x := by
  obtain ⟨i, hi, r⟩ := h
  exact ⟨i, hi, isI_sw r⟩
theorem mm_or {x y : Int32} : ((if y < x then y else x) = x ∧ (if x < y then y else x) = y) ∨ ((if y < x then y else x) = y ∧ (if x < y then y else x) = x) := by
  by_cases q : y ≤ x
  · exact Or.inr (i32_le_of q)
  · exact Or.inl (i32_nle_of q)
theorem addF_cov {T : PT} {x y : Int32} (h : covP T x y) : addF T x y = T := by
  unfold addF
  rcases mm_or (x := x) (y := y) with ⟨a, b⟩ | ⟨a, b⟩
  · rw [a, b]; exact putF_c h
  · rw [a, b]; exact putF_c (covP_sw h)
theorem addF_has (T : PT) (x y : Int32) : covP (addF T x y) x y := by
  unfold addF
  rcases mm_or (x := x) (y := y) with ⟨a, b⟩ | ⟨a, b⟩
  · rw [a, b]; exact putF_has T x y
  · rw [a, b]; exact covP_sw (putF_has T y x)
theorem addF_al {T : PT} {x y : Int32} {Q : Int32 → Int32 → Prop} (hQ : ∀ j, j < T.1 → Q (T.2.1 j) (T.2.2 j)) (hx : Q x y) (hs : Q y x) : ∀ j, j < (addF T x y).1 → Q ((addF T x y).2.1 j) ((addF T x y).2.2 j) := by
  unfold addF
  rcases mm_or (x := x) (y := y) with ⟨a, b⟩ | ⟨a, b⟩
  · rw [a, b]; exact putF_al hQ hx
  · rw [a, b]; exact putF_al hQ hs
