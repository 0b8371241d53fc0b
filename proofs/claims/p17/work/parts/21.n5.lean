/-! the least code: what it is, and the class's search -/
abbrev kps (g a b : Int32) : Prop := ((g &&& a) = 0 ∧ (g &&& b) = b) ∨ ((g &&& b) = 0 ∧ (g &&& a) = a)
theorem g_lesser {post : Int32 → Prop} {lo : Nat → Int32} {pn p : Nat} (hp : pn ≤ 75) (h : p < pn) (H : post (lo p)) : wp_X6_lesser post lo (nI pn) (nI p) := by
  refine ⟨fun q => absurd q (nI_pos (by omega)), fun _ => pk_le pn p (fun q => absurd h (by omega)) (fun _ => ⟨pk_in p 75 (by omega), ?_⟩)⟩
  rw [nI_clamp (show p < 2 ^ 31 by omega)]
  exact H
theorem g_greater {post : Int32 → Prop} {lo : Nat → Int32} {pn p : Nat} (hp : pn ≤ 75) (h : p < pn) (H : post (lo p)) : wp_X6_greater post lo (nI pn) (nI p) := by
  refine ⟨fun q => absurd q (nI_pos (by omega)), fun _ => pk_le pn p (fun q => absurd h (by omega)) (fun _ => ⟨pk_in p 75 (by omega), ?_⟩)⟩
  rw [nI_clamp (show p < 2 ^ 31 by omega)]
  exact H
theorem g_isKeptBy {post : Int32 → Prop} {lo hi : Nat → Int32} {pn p : Nat} {g : Int32} (hp : pn ≤ 75) (h : p < pn) (H1 : kps g (lo p) (hi p) → post 1) (H0 : ¬ kps g (lo p) (hi p) → post 0) : wp_X6_isKeptBy post lo hi (nI pn) (nI p) g := by
  refine g_lesser hp h (fun x3 e3 => g_greater hp h (fun x4 e4 => ?_))
  subst e3
  subst e4
  have E : ¬ ((g &&& lo p) = 0 ∧ (g &&& hi p) = hi p) → (((g &&& hi p) = 0 → (wp_X6_lesser (fun (r : Int32) => (((g &&& lo p) = r → post (1 : Int32)) ∧ (¬ (g &&& lo p) = r → post (0 : Int32)))) lo (nI pn) (nI p))) ∧ (¬ (g &&& hi p) = 0 → post (0 : Int32))) := fun hn => ⟨fun a => g_lesser hp h ⟨fun b => H1 (Or.inr ⟨a, b⟩), fun b => H0 (fun q => q.elim hn (fun q => b q.2))⟩, fun a => H0 (fun q => q.elim hn (fun q => a q.1))⟩
  exact ⟨fun a => g_greater hp h ⟨fun b => H1 (Or.inl ⟨a, b⟩), fun b => E (fun q => b q.2)⟩, fun a => E (fun q => a q.1)⟩
theorem r_keeps {post : Int32 → Prop} {g a b : Int32} (H1 : kps g a b → post 1) (H0 : ¬ kps g a b → post 0) : wp_X10_keeps post g a b := by
  have J : ¬ ((g &&& a) = 0 ∧ (g &&& b) = b) → j_X10_keeps_13 post g a b := fun hn => ⟨fun p => ⟨fun q => H1 (Or.inr ⟨p, q⟩), fun q => H0 (fun h => h.elim hn (fun h => q h.2))⟩, fun p => H0 (fun h => h.elim hn (fun h => p h.1))⟩
  exact ⟨fun p => ⟨fun q => H1 (Or.inl ⟨p, q⟩), fun q => J (fun h => q h.2)⟩, fun p => J (fun h => p h.1)⟩
/-! sets of partings as longs -/
def bl (x : Int64) (i : Nat) : Bool := x.toBitVec.getLsbD i
def mk (x : Int64) (P : Nat → Prop) : Prop := ∀ i, i < 64 → (bl x i = true ↔ P i)
theorem mk_cg {x : Int64} {P Q : Nat → Prop} (h : mk x P) (e : ∀ i, i < 64 → (P i ↔ Q i)) : mk x Q := fun i hi => (h i hi).trans (e i hi)
theorem mk_or {x y : Int64} {P Q : Nat → Prop} (h : mk x P) (g : mk y Q) : mk (x ||| y) (fun i => P i ∨ Q i) := fun i hi => by
  unfold bl
  rw [Int64.toBitVec_or, BitVec.getLsbD_or, Bool.or_eq_true]
  exact or_congr (h i hi) (g i hi)
theorem mk_an {x y : Int64} {P Q : Nat → Prop} (h : mk x P) (g : mk y Q) : mk (x &&& (y ^^^ (-1))) (fun i => P i ∧ ¬ Q i) := fun i hi => by
  have e : bl (x &&& (y ^^^ (-1))) i = (bl x i && !bl y i) := by
    unfold bl
    rw [Int64.toBitVec_and, BitVec.getLsbD_and, Int64.toBitVec_xor, BitVec.getLsbD_xor, show (-1 : Int64).toBitVec = BitVec.allOnes 64 from rfl, BitVec.getLsbD_allOnes, decide_eq_true hi, Bool.xor_true]
  rw [e, Bool.and_eq_true, Bool.not_eq_true', ← Bool.not_eq_true]
  exact and_congr (h i hi) (not_congr (g i hi))
theorem mk_0 : mk 0 (fun _ => False) := fun i _ => by
  unfold bl
  rw [show (0 : Int64).toBitVec = 0#64 from rfl, BitVec.getLsbD_zero]
  exact ⟨fun h => absurd h (by decide), fun h => absurd h id⟩
theorem mk_eq {x y : Int64} {P Q : Nat → Prop} (h : mk x P) (g : mk y Q) : x = y ↔ ∀ i, i < 64 → (P i ↔ Q i) := by
  constructor
  · intro e i hi
    subst e
    exact (h i hi).symm.trans (g i hi)
  · intro e
    apply Int64.toBitVec_inj.mp
    refine BitVec.eq_of_getLsbD_eq (fun i hi => ?_)
    exact Bool.eq_iff_iff.mpr ((h i hi).trans ((e i hi).trans (g i hi).symm))
theorem mk_z {x : Int64} {P : Nat → Prop} (h : mk x P) : x = 0 ↔ ∀ i, i < 64 → ¬ P i := by
  rw [mk_eq h mk_0]
  exact ⟨fun e i hi q => (e i hi).mp q, fun e i hi => ⟨fun q => e i hi q, fun q => q.elim⟩⟩
theorem mk_bits : ∀ i, i < 64 → ∀ j, j < 64 → bl ((1 : Int64) <<< ((nI i).toInt64 &&& 63)) j = decide (j = i) := by decide +kernel
theorem mk_bit {i : Nat} (h : i < 64) : mk ((1 : Int64) <<< ((nI i).toInt64 &&& 63)) (fun j => j = i) := fun j hj => by
  rw [mk_bits i h j hj]
  exact decide_eq_true_iff
/-! rows of signals -/
def Cv (K : Nat → Nat → Prop) (N d m fr : Nat) (L : Nat → Prop) (v : Nat → Nat) : Prop := (∀ i, d ≤ i → i < m → fr ≤ v i ∧ v i < N) ∧ (∀ i, d ≤ i → i + 1 < m → v i < v (i + 1)) ∧ ∀ p, L p → ∃ i, d ≤ i ∧ i < m ∧ K (v i) p
/-- not behind -/
def lx (d m : Nat) (v w : Nat → Nat) : Prop := (∀ i, d ≤ i → i < m → v i = w i) ∨ ∃ e, d ≤ e ∧ e < m ∧ (∀ i, d ≤ i → i < e → v i = w i) ∧ v e < w e
theorem up_of {v : Nat → Nat} {d m : Nat} (h : ∀ i, d ≤ i → i + 1 < m → v i < v (i + 1)) {i j : Nat} (hi : d ≤ i) (hj : i ≤ j) (hm : j < m) : v i + (j - i) ≤ v j := by
  induction j with
  | zero => rw [show i = 0 by omega]; simp
  | succ j ih =>
    by_cases e : i = j + 1
    · rw [e]; simp
    · have a := ih (by omega) (by omega)
      have b := h j (by omega) hm
      omega
theorem lx_anti {d m : Nat} {v w : Nat → Nat} (h1 : lx d m v w) (h2 : lx d m w v) : ∀ i, d ≤ i → i < m → v i = w i := by
  rcases h1 with h1 | ⟨e, e1, e2, e3, e4⟩
  · exact h1
  · rcases h2 with h2 | ⟨f, f1, f2, f3, f4⟩
    · exact fun i a b => (h2 i a b).symm
    · exfalso
      rcases Nat.lt_trichotomy e f with q | q | q
      · have := f3 e e1 q; omega
      · subst q; omega
      · have := e3 f f1 q; omega
theorem lx_tot {d m : Nat} (v w : Nat → Nat) : lx d m w v ∨ ∃ e, d ≤ e ∧ e < m ∧ (∀ i, d ≤ i → i < e → v i = w i) ∧ v e < w e := by
  induction m with
  | zero => exact Or.inl (Or.inl (fun i _ h => absurd h (Nat.not_lt_zero i)))
  | succ m ih =>
    rcases ih with (h | ⟨e, e1, e2, e3, e4⟩) | ⟨e, e1, e2, e3, e4⟩
    · by_cases hd : d ≤ m
      · rcases Nat.lt_trichotomy (v m) (w m) with q | q | q
        · exact Or.inr ⟨m, hd, by omega, fun i a b => (h i a b).symm, q⟩
        · refine Or.inl (Or.inl (fun i a b => ?_))
          by_cases e : i = m
          · rw [e, q]
          · exact h i a (by omega)
        · exact Or.inl (Or.inr ⟨m, hd, by omega, fun i a b => h i a b, q⟩)
      · exact Or.inl (Or.inl (fun i a b => absurd b (by omega)))
    · exact Or.inl (Or.inr ⟨e, e1, by omega, e3, e4⟩)
    · exact Or.inr ⟨e, e1, by omega, e3, e4⟩
section COVER
variable {K : Nat → Nat → Prop} {N d m fr : Nat} {L : Nat → Prop}
theorem Cv_tail {v : Nat → Nat} (h : Cv K N d m fr L v) : Cv K N (d + 1) m (v d + 1) (fun p => L p ∧ ¬ K (v d) p) v := ⟨fun j h1 h2 => ⟨by have := up_of h.2.1 (Nat.le_refl d) (show d ≤ j by omega) h2; omega, (h.1 j (by omega) h2).2⟩, fun j h1 h2 => h.2.1 j (by omega) h2, fun p hp => by
  obtain ⟨j, a, b, c⟩ := h.2.2 p hp.1
  refine ⟨j, ?_, b, c⟩
  by_cases e : j = d
  · rw [e] at c; exact absurd c hp.2
  · omega⟩
theorem Cv_cons {v : Nat → Nat} {i : Nat} (hi : fr ≤ i) (hN : i < N) (hd : d < m) (h : Cv K N (d + 1) m (i + 1) (fun p => L p ∧ ¬ K i p) v) : Cv K N d m fr L (fun k => if k = d then i else v k) := by
  refine ⟨fun j h1 h2 => ?_, fun j h1 h2 => ?_, fun p hp => ?_⟩
  · show fr ≤ (if j = d then i else v j) ∧ (if j = d then i else v j) < N
    by_cases e : j = d
    · rw [if_pos e]; exact ⟨hi, hN⟩
    · rw [if_neg e]
      have := h.1 j (by omega) h2
      omega
  · show (if j = d then i else v j) < (if j + 1 = d then i else v (j + 1))
    rw [if_neg (show ¬ j + 1 = d by omega)]
    by_cases e : j = d
    · rw [if_pos e]
      have := h.1 (j + 1) (by omega) h2
      omega
    · rw [if_neg e]
      exact h.2.1 j (by omega) h2
  · by_cases q : K i p
    · exact ⟨d, Nat.le_refl d, hd, by show K (if d = d then i else v d) p; rw [if_pos rfl]; exact q⟩
    · obtain ⟨j, a, b, c⟩ := h.2.2 p ⟨hp, q⟩
      exact ⟨j, by omega, b, by show K (if j = d then i else v j) p; rw [if_neg (by omega)]; exact c⟩
theorem Cv_shift {v : Nat → Nat} (h : Cv K N 1 (m + 1) fr L v) : Cv K N 0 m fr L (fun i => v (i + 1)) := ⟨fun i _ h2 => h.1 (i + 1) (by omega) (by omega), fun i _ h2 => h.2.1 (i + 1) (by omega) (by omega), fun p hp => by
  obtain ⟨j, a, b, c⟩ := h.2.2 p hp
  obtain ⟨k, rfl⟩ : ∃ k, j = k + 1 := ⟨j - 1, by omega⟩
  exact ⟨k, by omega, by omega, c⟩⟩
end COVER
theorem g_fill {K : Nat → Nat → Prop} {N pn : Nat} {kp kf : Nat → Int64} (hN : N ≤ 32) (hpn : pn ≤ 64) (hk : ∀ h, h < N → mk (kp h) (fun p => p < pn ∧ K h p)) (hf : ∀ h, h ≤ N → mk (kf h) (fun p => p < pn ∧ ∃ j, h ≤ j ∧ j < N ∧ K j p)) (m : Nat) (hm : m ≤ 5) : ∀ (f : Nat) (post : Int32 → (Nat → Int32) → Prop) (sg : Nat → Int32) (d : Nat) (x4 : Int64) (fr : Nat) (L : Nat → Prop), fr ≤ N → d ≤ m → 5 - d < f → mk x4 L → (∀ p, L p → p < pn) → (d < m → ∀ v, ¬ Cv K N (d + 1) m fr L v) → (∀ sg' v, Cv K N d m fr L v → (∀ w, Cv K N d m fr L w → lx d m v w) → (∀ i, d ≤ i → i < m → sg' i = nI (2 * v i)) → post 1 sg') → (∀ sg', (∀ v, ¬ Cv K N d m fr L v) → post 0 sg') → wp_X3_fill f post sg kp kf (nI N) (nI d) (nI m) (nI fr) x4 := by
  intro f
  induction f with
  | zero => intro post sg d x4 fr L _ _ h; omega
  | succ f ihf =>
    intro post sg d x4 fr L hfr hdm hfu hx hL hNC H1 H0
    have base : m ≤ d → ((lg_cmp x4 (0 : Int64) = 0 → post 1 sg) ∧ (¬ lg_cmp x4 (0 : Int64) = 0 → post 0 sg)) := by
      intro hle
      rw [lg_cmp_eq, mk_z hx]
      refine ⟨fun hz => H1 sg (fun _ => 0) ⟨fun i a b => absurd b (by omega), fun i a b => absurd b (by omega), fun p hp => absurd hp (hz p (by have := hL p hp; omega))⟩ (fun w _ => Or.inl (fun i a b => absurd b (by omega))) (fun i a b => absurd b (by omega)), fun hz => H0 sg (fun v hv => hz (fun p _ hp => ?_))⟩
      obtain ⟨j, a, b, c⟩ := hv.2.2 p hp
      omega
    have Lo : ∀ (x6 : Int32), d < 5 → d < m → ((x6 = 1 ∧ m = d + 1) ∨ (x6 = 0 ∧ d + 1 < m)) → ∀ n i sg, fr ≤ i → i ≤ N → N - i < n → (∀ v, Cv K N d m fr L v → i ≤ v d) → w_X3_fill_40 (wp_X3_fill f) post (fun sg => post 0 sg) kp kf (nI N) (nI d) (nI m) x4 x6 n (nI i) sg := by
      intro x6 hd5 hdlt hx6 n
      induction n with
      | zero => intro i sg _ h1 h2; omega
      | succ n ih =>
        intro i sg hfi hiN hn hge
        refine pk_le N i (fun hle => H0 sg (fun v hv => ?_)) (fun hlt => ⟨pk_in i 33 (by omega), ?_⟩)
        · have := hge v hv
          have := (hv.1 d (Nat.le_refl d) hdlt).2
          omega
        rw [nI_clamp (show i < 2 ^ 31 by omega), lg_cmp_eq]
        have hrec : (∀ v, Cv K N d m fr L v → v d ≠ i) → ∀ sg b, b = nI i + 1 → w_X3_fill_40 (wp_X3_fill f) post (fun sg => post 0 sg) kp kf (nI N) (nI d) (nI m) x4 x6 n b sg := fun hq sg b hb => by
          rw [hb, nI_p1 i]
          refine ih (i + 1) sg (by omega) (by omega) (by omega) (fun v hv => ?_)
          have := hge v hv
          have := hq v hv
          omega
        have hxf := mk_an hx (hf i (by omega))
        refine ⟨fun _ => ⟨pk_in i 32 (by omega), fun x8 e8 => ?_⟩, fun hnz => H0 sg (fun v hv => hnz ?_)⟩
        · have hx8 : mk x8 (fun p => L p ∧ ¬ K i p) := by
            rw [e8]
            exact mk_cg (mk_an hx (hk i hlt)) (fun p hp => ⟨fun q => ⟨q.1, fun r => q.2 ⟨hL p q.1, r⟩⟩, fun q => ⟨q.1, fun r => q.2 r.2⟩⟩)
          have J0 : (∀ v, Cv K N d m fr L v → v d ≠ i) → j_X3_fill_117 (wp_X3_fill f) post (w_X3_fill_40 (wp_X3_fill f) post (fun sg => post 0 sg) kp kf (nI N) (nI d) (nI m) x4 x6 n) sg kp kf (nI N) (nI d) (nI m) (nI i) x8 0 := fun hq => ⟨fun _ => hrec hq sg, fun q => absurd rfl q⟩
          have J1 : j_X3_fill_117 (wp_X3_fill f) post (w_X3_fill_40 (wp_X3_fill f) post (fun sg => post 0 sg) kp kf (nI N) (nI d) (nI m) x4 x6 n) sg kp kf (nI N) (nI d) (nI m) (nI i) x8 1 := by
            refine ⟨fun q => absurd q (by decide), fun _ => ?_⟩
            rw [nI_p1 d, nI_p1 i]
            refine ihf _ sg (d + 1) x8 (i + 1) (fun p => L p ∧ ¬ K i p) (by omega) (by omega) (by omega) hx8 (fun p hp => hL p hp.1) (fun h2 w hw => ?_) (fun sg' v hv hmin hsg => ⟨fun q => absurd q (by decide), fun _ => ⟨pk_in d 5 (by omega), fun a ha => ?_⟩⟩) (fun sg' hno => ⟨fun _ x hx => hrec (fun v hv e => ?_) sg' x (hx.trans (nI_p1 i).symm), fun q => absurd rfl q⟩)
            · exact hNC hdlt _ (Cv_cons hfi hlt h2 hw)
            · refine H1 a _ (Cv_cons hfi hlt hdlt hv) (fun w hw => ?_) (fun j h1 h2 => ?_)
              · by_cases e : w d = i
                · have ht := Cv_tail hw
                  rw [e] at ht
                  rcases hmin w ht with q | ⟨e', e1, e2, e3, e4⟩
                  · refine Or.inl (fun j h1 h2 => ?_)
                    show (if j = d then i else v j) = w j
                    by_cases ej : j = d
                    · rw [if_pos ej, ej, e]
                    · rw [if_neg ej]; exact q j (by omega) h2
                  · refine Or.inr ⟨e', by omega, e2, fun j h1 h2 => ?_, ?_⟩
                    · show (if j = d then i else v j) = w j
                      by_cases ej : j = d
                      · rw [if_pos ej, ej, e]
                      · rw [if_neg ej]; exact e3 j (by omega) h2
                    · show (if e' = d then i else v e') < w e'
                      rw [if_neg (by omega)]
                      exact e4
                · refine Or.inr ⟨d, Nat.le_refl d, hdlt, fun j h1 h2 => absurd h2 (by omega), ?_⟩
                  show (if d = d then i else v d) < w d
                  rw [if_pos rfl]
                  have := hge w hw
                  omega
              · show a j = nI (2 * (if j = d then i else v j))
                rw [ha, nI_clamp (show d < 2 ^ 31 by omega), show (2 : Int32) = nI 2 from rfl, pk_mul]
                by_cases ej : j = d
                · rw [if_pos ej, ej, pk_us]
                · rw [if_neg ej, pk_un ej]; exact hsg j (by omega) h2
            · have ht := Cv_tail hv
              rw [e] at ht
              exact hno v ht
          rw [lg_cmp_eq, lg_cmp_eq]
          rcases hx6 with ⟨e6, em⟩ | ⟨e6, em⟩
          · refine ⟨fun q => absurd (e6.symm.trans q) (by decide), fun _ => ⟨fun _ => J1, fun hz => J0 (fun v hv e => hz ?_)⟩⟩
            rw [mk_z hx8]
            rintro p _ ⟨q1, q2⟩
            obtain ⟨j, a, b, c⟩ := hv.2.2 p q1
            rw [show j = d by omega, e] at c
            exact q2 c
          · refine ⟨fun _ => ⟨fun hz => J0 (fun v hv e => ?_), fun _ => J1⟩, fun q => absurd e6 q⟩
            rw [mk_eq hx8 hx] at hz
            refine hNC hdlt v ⟨fun j h1 h2 => hv.1 j (by omega) h2, fun j h1 h2 => hv.2.1 j (by omega) h2, fun p hp => ?_⟩
            obtain ⟨j, a, b, c⟩ := hv.2.2 p hp
            refine ⟨j, ?_, b, c⟩
            by_cases ej : j = d
            · rw [ej, e] at c
              exact absurd c ((hz p (by have := hL p hp; omega)).mpr hp).2
            · omega
        · rw [mk_z hxf]
          rintro p _ ⟨q1, q2⟩
          obtain ⟨j, a, b, c⟩ := hv.2.2 p q1
          have := hge v hv
          have := up_of hv.2.1 (Nat.le_refl d) a b
          exact q2 ⟨hL p q1, v j, by omega, (hv.1 j a b).2, c⟩
    refine pk_le m d (fun hle => base hle) (fun hlt => pk_lt d 5 (fun h5 => ?_) (fun h => absurd h (by omega)))
    have em : nI m - (1 : Int32) = nI (m - 1) := by
      obtain ⟨k, rfl⟩ : ∃ k, m = k + 1 := ⟨m - 1, by omega⟩
      rw [nI_pred]
      rfl
    have h0 : ∀ v, Cv K N d m fr L v → fr ≤ v d := fun v hv => (hv.1 d (Nat.le_refl d) hlt).1
    exact pk_eq d (m - 1) (fun e => ⟨34, Lo 1 h5 hlt (Or.inl ⟨rfl, by omega⟩) 34 fr sg (Nat.le_refl _) hfr (by omega) h0⟩) (fun e => ⟨34, Lo 0 h5 hlt (Or.inr ⟨rfl, by omega⟩) 34 fr sg (Nat.le_refl _) hfr (by omega) h0⟩) rfl em
/-- the least code of g rows t (none: g = 0) -/
def LCs (K : Nat → Nat → Prop) (N pn g : Nat) (t : Nat → Nat) : Prop := (∀ m, 1 ≤ m → m ≤ 5 → (g = 0 ∨ m < g) → ∀ v, ¬ Cv K N 0 m 0 (fun p => p < pn) v) ∧ g ≤ 5 ∧ (0 < g → Cv K N 0 g 0 (fun p => p < pn) t ∧ ∀ w, Cv K N 0 g 0 (fun p => p < pn) w → lx 0 g t w)
theorem LCs_eq {K : Nat → Nat → Prop} {N pn g g2 : Nat} {t t2 : Nat → Nat} (h : LCs K N pn g t) (h2 : LCs K N pn g2 t2) : g = g2 ∧ ∀ i, i < g → t i = t2 i := by
  have e : g = g2 := by
    rcases Nat.lt_trichotomy g g2 with q | q | q
    · by_cases z : g = 0
      · exact absurd (h2.2.2 (by omega)).1 (h.1 g2 (by omega) h2.2.1 (Or.inl z) t2)
      · exact absurd (h.2.2 (by omega)).1 (h2.1 g (by omega) h.2.1 (Or.inr q) t)
    · exact q
    · by_cases z : g2 = 0
      · exact absurd (h.2.2 (by omega)).1 (h2.1 g (by omega) h.2.1 (Or.inl z) t)
      · exact absurd (h2.2.2 (by omega)).1 (h.1 g2 (by omega) h2.2.1 (Or.inr q) t2)
  subst e
  refine ⟨rfl, fun i hi => ?_⟩
  obtain ⟨a, b⟩ := h.2.2 (by omega)
  obtain ⟨c, d⟩ := h2.2.2 (by omega)
  exact lx_anti (b t2 c) (d t a) i (by omega) hi
theorem g_prepare {post : (Nat → Int64) → (Nat → Int64) → Int32 → Prop} {lo hi : Nat → Int32} {kp kf : Nat → Int64} {pn st : Nat} {ca : Int32} (hp : pn ≤ 63) (h2 : 2 ≤ st) (h6 : st ≤ 6) (H : ∀ a b, (∀ h, h < 2 ^ (st - 1) → mk (a h) (fun p => p < pn ∧ kps (nI (2 * h)) (lo p) (hi p))) → (∀ h, h ≤ 2 ^ (st - 1) → mk (b h) (fun p => p < pn ∧ ∃ j, h ≤ j ∧ j < 2 ^ (st - 1) ∧ kps (nI (2 * j)) (lo p) (hi p))) → post a b (nI (2 ^ (st - 1)))) : wp_X3_prepare post lo hi (nI pn) kp kf ca (nI st) := by
  have hN : 2 ^ (st - 1) ≤ 32 := p2_5 (by omega)
  have k1 : ∀ (KE : Int64 → Prop) (h : Nat), (∀ a, mk a (fun p => p < pn ∧ kps (nI (2 * h)) (lo p) (hi p)) → KE a) → ∀ n i a, i ≤ pn → pn - i < n → mk a (fun p => p < i ∧ kps (nI (2 * h)) (lo p) (hi p)) → w_X3_prepare_51 KE lo hi (nI pn) (nI h) n a (nI i) := by
    intro KE h hK n
    induction n with
    | zero => intro i a h1 h2; omega
    | succ n ih =>
      intro i a h1 h2 h3
      refine pk_le pn i (fun hle => hK a (by rw [show pn = i by omega]; exact h3)) (fun hlt => ?_)
      rw [show (2 : Int32) * nI h = nI (2 * h) from by rw [show (2 : Int32) = nI 2 from rfl, pk_mul]]
      refine g_isKeptBy (by omega) hlt (fun q => ⟨fun q1 => absurd q1 (by decide), fun _ b hb z hz => ?_⟩) (fun q => ⟨fun _ z hz => ?_, fun q1 => absurd rfl q1⟩)
      · rw [hz, nI_p1 i, hb]
        refine ih (i + 1) _ (by omega) (by omega) (mk_cg (mk_or h3 (mk_bit (show i < 64 by omega))) (fun p _ => ⟨?_, ?_⟩))
        · rintro (⟨a, b⟩ | e)
          · exact ⟨by omega, b⟩
          · rw [e]; exact ⟨by omega, q⟩
        · rintro ⟨a, b⟩
          by_cases e : p = i
          · exact Or.inr e
          · exact Or.inl ⟨by omega, b⟩
      · rw [hz, nI_p1 i]
        refine ih (i + 1) a (by omega) (by omega) (mk_cg h3 (fun p _ => ⟨fun r => ⟨by omega, r.2⟩, fun r => ⟨?_, r.2⟩⟩))
        by_cases e : p = i
        · rw [e] at r; exact absurd r.2 q
        · omega
  have k2 : ∀ (KE : (Nat → Int64) → (Nat → Int64) → Prop), (∀ a b, (∀ h, h < 2 ^ (st - 1) → mk (a h) (fun p => p < pn ∧ kps (nI (2 * h)) (lo p) (hi p))) → (∀ h, h ≤ 2 ^ (st - 1) → mk (b h) (fun p => p < pn ∧ ∃ j, h ≤ j ∧ j < 2 ^ (st - 1) ∧ kps (nI (2 * j)) (lo p) (hi p))) → KE a b) → ∀ n i a b, i ≤ 2 ^ (st - 1) → i < n → (∀ h, i ≤ h → h < 2 ^ (st - 1) → mk (a h) (fun p => p < pn ∧ kps (nI (2 * h)) (lo p) (hi p))) → (∀ h, i ≤ h → h ≤ 2 ^ (st - 1) → mk (b h) (fun p => p < pn ∧ ∃ j, h ≤ j ∧ j < 2 ^ (st - 1) ∧ kps (nI (2 * j)) (lo p) (hi p))) → w_X3_prepare_41 KE lo hi (nI pn) n (nI i + (-1)) a b := by
    intro KE hK n
    induction n with
    | zero => intro i a b h1 h2; omega
    | succ n ih =>
      intro i a b h1 h2 ha hb
      cases i with
      | zero =>
        rw [show nI 0 + (-1) = (-1 : Int32) from by decide]
        exact ⟨fun _ => hK _ _ (fun h => ha h (Nat.zero_le _)) (fun h => hb h (Nat.zero_le _)), fun q => absurd (by decide) q⟩
      | succ i =>
        rw [pk_m1]
        refine pk_lt i 0 (fun q => absurd q (by omega)) (fun _ => ⟨76, k1 _ i (fun m hm => ?_) 76 0 _ (by omega) (by omega) (mk_cg mk_0 (fun p _ => ⟨fun q => q.elim, fun q => absurd q.1 (Nat.not_lt_zero p)⟩))⟩)
        rw [nI_p1 i, nI_clamp (show i < 2 ^ 31 by omega), nI_clamp (show i + 1 < 2 ^ 31 by omega)]
        refine ⟨pk_in i 32 (by omega), fun a2 e2 => ⟨pk_in (i + 1) 33 (by omega), pk_in i 33 (by omega), fun b2 e3 z hz => ?_⟩⟩
        rw [hz]
        refine ih i a2 b2 (by omega) (by omega) (fun h h3 h4 => ?_) (fun h h3 h4 => ?_)
        · by_cases e : h = i
          · rw [e2, e, pk_uLs]; exact hm
          · rw [e2, pk_uLn e]; exact ha h (by omega) h4
        · by_cases e : h = i
          · rw [e3, e, pk_uLs]
            refine mk_cg (mk_or (hb (i + 1) (Nat.le_refl _) h1) hm) (fun p _ => ⟨?_, ?_⟩)
            · rintro (⟨q, j, j1, j2, j3⟩ | ⟨q, j3⟩)
              · exact ⟨q, j, by omega, j2, j3⟩
              · exact ⟨q, i, Nat.le_refl _, by omega, j3⟩
            · rintro ⟨q, j, j1, j2, j3⟩
              by_cases ej : j = i
              · rw [ej] at j3; exact Or.inr ⟨q, j3⟩
              · exact Or.inl ⟨q, j, by omega, j2, j3⟩
          · rw [e3, pk_uLn e]; exact hb h (by omega) h4
  have J : j_X3_prepare_21 post lo hi (nI pn) kp kf (nI (2 ^ (st - 1))) := by
    unfold j_X3_prepare_21
    refine ⟨pk_in (2 ^ (st - 1)) 33 (by omega), fun a e z hz => ⟨34, ?_⟩⟩
    rw [nI_clamp (show 2 ^ (st - 1) < 2 ^ 31 by omega)] at e
    rw [hz, show nI (2 ^ (st - 1)) - 1 = nI (2 ^ (st - 1)) + (-1) from by
      obtain ⟨k, hk⟩ : ∃ k, 2 ^ (st - 1) = k + 1 := ⟨2 ^ (st - 1) - 1, by have := Nat.two_pow_pos (st - 1); omega⟩
      rw [hk, nI_pred, pk_m1]]
    refine k2 _ (fun a b => H a b) 34 (2 ^ (st - 1)) _ _ (Nat.le_refl _) (by omega) (fun h h3 h4 => absurd h4 (by omega)) (fun h h3 h4 => ?_)
    rw [show h = 2 ^ (st - 1) by omega, e, pk_uLs]
    exact mk_cg mk_0 (fun p _ => ⟨fun q => q.elim, fun ⟨_, j, j1, j2, _⟩ => absurd j2 (by omega)⟩)
  refine pk_lt st 2 (fun h => absurd h (by omega)) (fun _ => pk_lt 6 st (fun h => absurd h (by omega)) (fun _ => ?_))
  rw [show (1 : Int32) = nI 1 from rfl, pk_sub (by omega), show nI 1 = (1 : Int32) from rfl, sh1 (st - 1) (by omega)]
  exact J
theorem g_find {post : (Nat → Int32) → (Nat → Int64) → (Nat → Int64) → Int32 → Int32 → Prop} {lo hi sg : Nat → Int32} {kp kf : Nat → Int64} {pn st : Nat} {ca sz : Int32} (hp0 : 0 < pn) (hp : pn ≤ 63) (h2 : 2 ≤ st) (h6 : st ≤ 6) (hK : ∀ p, p < pn → ∃ j, j < 2 ^ (st - 1) ∧ kps (nI (2 * j)) (lo p) (hi p))
    (H : ∀ sg' kp' kf' ca' g t, LCs (fun h p => kps (nI (2 * h)) (lo p) (hi p)) (2 ^ (st - 1)) pn g t → (∀ i, i < g → sg' i = nI (2 * t i)) → post sg' kp' kf' ca' (nI g)) : wp_X3_find post lo hi (nI pn) sg kp kf ca sz (nI st) := by
  have hN : 2 ^ (st - 1) ≤ 32 := p2_5 (by omega)
  refine g_prepare hp h2 h6 (fun a b ha hb => ⟨pk_in 0 33 (by omega), fun x3 e3 => ⟨7, ?_⟩⟩)
  have hx3 : mk x3 (fun p => p < pn) := by
    rw [e3]
    refine mk_cg (hb 0 (Nat.zero_le _)) (fun p _ => ⟨fun q => q.1, fun q => ⟨q, ?_⟩⟩)
    obtain ⟨j, j1, j2⟩ := hK p q
    exact ⟨j, Nat.zero_le _, j1, j2⟩
  have key : ∀ n i sg, 1 ≤ i → i ≤ 6 → 6 - i < n → (∀ m, 1 ≤ m → m < i → ∀ v, ¬ Cv (fun h p => kps (nI (2 * h)) (lo p) (hi p)) (2 ^ (st - 1)) 0 m 0 (fun p => p < pn) v) → w_X3_find_21 (fun (ysignals_10 : Nat → Int32) (ysize_10 : Int32) => post ysignals_10 a b (nI (2 ^ (st - 1))) ysize_10) a b (nI (2 ^ (st - 1))) x3 n (nI i) sg (nI 0) := by
    intro n
    induction n with
    | zero => intro i sg h1 h2; omega
    | succ n ih =>
      intro i sg h1 h2' h3 h4
      refine pk_lt 5 i (fun h => H _ _ _ _ 0 (fun _ => 0) ⟨fun m m1 m2 _ => h4 m m1 (by omega), by omega, fun q => absurd q (by omega)⟩ (fun j hj => absurd hj (by omega))) (fun hle => ⟨fun _ => ?_, fun q => absurd rfl q⟩)
      refine g_fill (K := fun h p => kps (nI (2 * h)) (lo p) (hi p)) hN (by omega) ha hb i hle 7 _ sg 0 x3 0 (fun p => p < pn) (Nat.zero_le _) (Nat.zero_le _) (by omega) hx3 (fun p h => h) (fun _ v hv => ?_) (fun sg' v hv hmin hsg => ⟨fun q => absurd q (by decide), fun _ z hz => ?_⟩) (fun sg' hno => ⟨fun _ z hz => ?_, fun q => absurd rfl q⟩)
      · obtain ⟨k, rfl⟩ : ∃ k, i = k + 1 := ⟨i - 1, by omega⟩
        by_cases e : k = 0
        · subst e
          obtain ⟨j, a, b, c⟩ := hv.2.2 0 hp0
          omega
        · exact h4 k (by omega) (by omega) _ (Cv_shift hv)
      · rw [hz, nI_p1 i]
        have hl : LCs (fun h p => kps (nI (2 * h)) (lo p) (hi p)) (2 ^ (st - 1)) pn i v := ⟨fun m m1 m2 m3 => h4 m m1 (by omega), hle, fun _ => ⟨hv, hmin⟩⟩
        have fin := H sg' a b (nI (2 ^ (st - 1))) i v hl (fun j hj => hsg j (Nat.zero_le _) hj)
        cases n with
        | zero => omega
        | succ n => exact pk_lt 5 (i + 1) (fun _ => fin) (fun _ => pk_eq i 0 (fun e => absurd e (by omega)) (fun _ => fin))
      · rw [hz, nI_p1 i]
        refine ih (i + 1) sg' (by omega) (by omega) (by omega) (fun m m1 m2 => ?_)
        by_cases e : m = i
        · rw [e]; exact hno
        · exact h4 m m1 (by omega)
  exact key 7 1 sg (by omega) (by omega) (by omega) (fun m m1 m2 => absurd m2 (by omega))
theorem keepable {st : Nat} {a b : Int32} (h1 : 1 ≤ st) (h6 : st ≤ 6) (h : apQ st a b) : ∃ j, j < 2 ^ (st - 1) ∧ kps (nI (2 * j)) a b := by
  obtain ⟨m, n, hm, hn, h0, rfl, rfl⟩ := h
  obtain ⟨k, rfl⟩ : ∃ k, st = k + 1 := ⟨st - 1, by omega⟩
  rw [Nat.pow_succ] at hm hn
  rw [show k + 1 - 1 = k by omega]
  by_cases e : m % 2 = 0
  · refine ⟨m / 2, by omega, Or.inr ?_⟩
    rw [show 2 * (m / 2) = m by omega, nI_and, nI_and, h0, Nat.and_self]
    exact ⟨rfl, rfl⟩
  · have e2 : n % 2 = 0 := by
      have this : (m &&& n).testBit 0 = false := by rw [h0]; exact Nat.zero_testBit 0
      have e1 : m % 2 = 1 := by omega
      rw [Nat.testBit_and, Nat.testBit_zero, Nat.testBit_zero, e1] at this
      by_cases q : n % 2 = 1
      · rw [q] at this; exact absurd this (by decide)
      · omega
    refine ⟨n / 2, by omega, Or.inl ?_⟩
    rw [show 2 * (n / 2) = n by omega, nI_and, nI_and, Nat.and_comm, h0, Nat.and_self]
    exact ⟨rfl, rfl⟩
theorem PF_pos {st co : Nat} {E : Nat → Nat → Int32} (h2 : 2 ≤ st) : 0 < (PF st co E).1 := by
  have col : ∀ r s T, covP T (i1s 0) (i1s 1) → covP (fo (colF E r s) co T) (i1s 0) (i1s 1) := fun r s T h => fo_ind (P := fun _ T => covP T (i1s 0) (i1s 1)) h (fun i T _ h => colF_cv h)
  have pair : ∀ r s T, covP T (i1s 0) (i1s 1) → covP (pairF co E r s T) (i1s 0) (i1s 1) := fun r s T h => col r s _ (putF_ex h)
  have row : ∀ r T, covP T (i1s 0) (i1s 1) → covP (rowF st co E r T) (i1s 0) (i1s 1) := fun r T h => fo_ind (P := fun _ T => covP T (i1s 0) (i1s 1)) h (fun i T _ h => pair r _ T h)
  have row0 : ∀ T, covP (rowF st co E 0 T) (i1s 0) (i1s 1) := fun T => by
    have := fo_ind (f := fun j T => pairF co E 0 (0 + 1 + j) T) (n := st - (0 + 1)) (a := T) (P := fun i T => 0 < i → covP T (i1s 0) (i1s 1)) (fun h => absurd h (by omega)) (fun i T _ h _ => by
      by_cases e : i = 0
      · subst e
        exact col 0 (0 + 1 + 0) _ (addF_has _ _ _)
      · exact pair _ _ _ (h (by omega)))
    exact this (by omega)
  have all : covP (PF st co E) (i1s 0) (i1s 1) := by
    have := fo_ind (f := rowF st co E) (n := st) (a := ((0, fun _ => 0, fun _ => 0) : PT)) (P := fun i T => 0 < i → covP T (i1s 0) (i1s 1)) (fun h => absurd h (by omega)) (fun i T _ h _ => by
      by_cases e : i = 0
      · subst e
        exact row0 T
      · exact row _ _ (h (by omega)))
    exact this (by omega)
  obtain ⟨i, hi, _⟩ := all
  omega
