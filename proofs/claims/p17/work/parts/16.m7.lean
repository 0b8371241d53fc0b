/-! the page: what a letter does (r rows done, e entries in this one, c entries in a row, 0 in the first) -/
def tk (v r e c : Nat) : Option (Nat × Nat × Nat) :=
  if v = 59 then (if (if c = 0 then 1 < e else e = c) ∧ r < 5 then some (r + 1, 0, e) else none)
  else if (v = 45 ∨ (97 ≤ v ∧ v ≤ 102)) ∧ e < (if c = 0 then 4 else c) then some (r, e + 1, c) else none
def pinv (r e c : Nat) : Prop := r ≤ 5 ∧ e ≤ 4 ∧ c ≤ 4 ∧ (c = 0 ↔ r = 0) ∧ (c ≠ 0 → 2 ≤ c ∧ e ≤ c)
theorem tk_cases {v r e c r' e' c' : Nat} (h : tk v r e c = some (r', e', c')) : (v = 59 ∧ (if c = 0 then 1 < e else e = c) ∧ r < 5 ∧ r' = r + 1 ∧ e' = 0 ∧ c' = e) ∨ (v ≠ 59 ∧ (v = 45 ∨ (97 ≤ v ∧ v ≤ 102)) ∧ e < (if c = 0 then 4 else c) ∧ r' = r ∧ e' = e + 1 ∧ c' = c) := by
  unfold tk at h
  by_cases h59 : v = 59
  · rw [if_pos h59] at h
    by_cases hq : (if c = 0 then 1 < e else e = c) ∧ r < 5
    · rw [if_pos hq] at h
      simp only [Option.some.injEq, Prod.mk.injEq] at h
      exact Or.inl ⟨h59, hq.1, hq.2, h.1.symm, h.2.1.symm, h.2.2.symm⟩
    · rw [if_neg hq] at h
      cases h
  · rw [if_neg h59] at h
    by_cases hq : (v = 45 ∨ (97 ≤ v ∧ v ≤ 102)) ∧ e < (if c = 0 then 4 else c)
    · rw [if_pos hq] at h
      simp only [Option.some.injEq, Prod.mk.injEq] at h
      exact Or.inr ⟨h59, hq.1, hq.2, h.1.symm, h.2.1.symm, h.2.2.symm⟩
    · rw [if_neg hq] at h
      cases h
theorem tk_inv {v r e c r' e' c' : Nat} (h : pinv r e c) (ht : tk v r e c = some (r', e', c')) : pinv r' e' c' := by
  obtain ⟨h1, h2, h3, h4, h5⟩ := h
  rcases tk_cases ht with ⟨_, q1, q2, rfl, rfl, rfl⟩ | ⟨_, _, q2, rfl, rfl, rfl⟩
  · by_cases hc : c = 0
    · rw [if_pos hc] at q1
      exact ⟨by omega, by omega, h2, by omega, fun _ => ⟨by omega, by omega⟩⟩
    · rw [if_neg hc] at q1
      have := h5 hc
      exact ⟨by omega, by omega, h2, by omega, fun _ => ⟨by omega, by omega⟩⟩
  · by_cases hc : c' = 0
    · rw [if_pos hc] at q2
      exact ⟨h1, by omega, h3, h4, fun q => absurd hc q⟩
    · rw [if_neg hc] at q2
      have := h5 hc
      exact ⟨h1, by omega, h3, h4, fun _ => ⟨by omega, by omega⟩⟩
/-- the state that a letter tells, plus one; 0: none -/
def lv1 (v : Nat) : Nat := if 97 ≤ v ∧ v ≤ 102 then v - 96 else 0
def gI (g : Nat) : Int32 := if g = 0 then -1 else nI (g - 1)
def mx (a b : Nat) : Nat := if a < b then b else a
def stv (v : Nat) : Int32 := gI (lv1 v)
theorem gI_le {a b : Nat} (ha : a < 2 ^ 30) (hb : b < 2 ^ 30) : gI a ≤ gI b ↔ a ≤ b := by
  have m1 : (-1 : Int32).toInt = -1 := by decide
  rw [Int32.le_iff_toInt_le]
  unfold gI
  by_cases h1 : a = 0
  · rw [if_pos h1, m1]
    by_cases h2 : b = 0
    · rw [if_pos h2, m1]; omega
    · rw [if_neg h2, nI_toInt (by omega)]; omega
  · rw [if_neg h1, nI_toInt (by omega)]
    by_cases h2 : b = 0
    · rw [if_pos h2, m1]; omega
    · rw [if_neg h2, nI_toInt (by omega)]; omega
theorem lv1_lt (v : Nat) : lv1 v ≤ 6 := by unfold lv1; split <;> omega
theorem nlt_gI {r g : Nat} (hr : r < 2 ^ 30) (hg : g < 2 ^ 30) : nI r < gI g ↔ r + 1 < g := by
  have m1 : (-1 : Int32).toInt = -1 := by decide
  rw [Int32.lt_iff_toInt_lt, nI_toInt (by omega)]
  unfold gI
  by_cases h : g = 0
  · rw [if_pos h, m1]; omega
  · rw [if_neg h, nI_toInt (by omega)]; omega
theorem s_takes {post : Int32 → Int32 → Int32 → Int32 → Int32 → (Nat → Int32) → Prop} {v r e c gm : Nat} {na : Nat → Int32} (hv : v < 128) (hI : pinv r e c) (hg : gm ≤ 6) (H0 : tk v r e c = none → post 0 (nI r) (nI e) (nI c) (gI gm) na)
    (H1 : ∀ r' e' c', tk v r e c = some (r', e', c') → post 1 (nI r') (nI e') (nI c') (gI (mx gm (lv1 v))) (if v = 59 then na else upd na (4 * r + e) (stv v))) : wp_X10_takes post (nI r) (nI e) (nI c) (gI gm) na (nI v) := by
  obtain ⟨h1, h2, h3, h4, h5⟩ := hI
  -- a new row
  have A0 : tk v r e c = none → j_X10_takes_79 post (nI r) (nI e) (nI c) (gI gm) na 0 := fun h => by
    refine ⟨fun _ => ⟨fun _ => ?_, fun q => absurd rfl q⟩, fun q => absurd rfl q⟩
    intro f hf
    have hf : f = nI r := by rw [hf]; exact (nI_add r 0)
    rw [hf]
    exact ⟨fun _ => ⟨bz0, H0 h⟩, fun q => absurd rfl q⟩
  have A1 : v = 59 → tk v r e c = some (r + 1, 0, e) → j_X10_takes_79 post (nI r) (nI e) (nI c) (gI gm) na 1 := fun hv9 h => by
    refine ⟨fun q => absurd q (by decide), fun _ => ⟨fun q => absurd q (by decide), fun _ => ?_⟩⟩
    intro f hf
    rw [hf, nI_p1]
    refine ⟨fun q => absurd q (by decide), fun _ => ⟨bz1, ?_⟩⟩
    have := H1 _ _ _ h
    rw [if_pos hv9, show mx gm (lv1 v) = gm from by subst hv9; unfold mx lv1; simp] at this
    exact this
  have B : ∀ w : Int32, v = 59 → (w = 0 ∧ ¬ (if c = 0 then 1 < e else e = c)) ∨ (w = 1 ∧ (if c = 0 then 1 < e else e = c)) → j_X10_takes_61 post (nI r) (nI e) (nI c) (gI gm) na w := by
    intro w hv9 hw
    rcases hw with ⟨e1, e2⟩ | ⟨e1, e2⟩
    · rw [e1]
      refine ⟨fun _ => A0 ?_, fun q => absurd rfl q⟩
      unfold tk
      rw [if_pos hv9, if_neg (fun q => e2 q.1)]
    · rw [e1]
      refine ⟨fun q => absurd q (by decide), fun _ => pk_le 5 r (fun h => A0 ?_) (fun h => A1 hv9 ?_)⟩
      · unfold tk
        rw [if_pos hv9, if_neg (fun q => absurd q.2 (by omega))]
      · unfold tk
        rw [if_pos hv9, if_pos ⟨e2, h⟩]
  -- an entry
  have hm1 : mx gm (lv1 v) ≤ 6 := by have := lv1_lt v; unfold mx; split <;> omega
  have C : ¬ v = 59 → tk v r e c = some (r, e + 1, c) → ∀ na', na' = upd na (4 * r + e) (stv v) → j_X10_takes_230 post (nI r) (nI e) (nI c) na' (gI (mx gm (lv1 v))) := fun hv9 h na' hna f hf => by
    rw [hf, nI_p1]
    have := H1 _ _ _ h
    rw [if_neg hv9, ← hna] at this
    exact this
  have D : ∀ t : Int32, ¬ v = 59 → t = stv v → 4 * r + e < 24 → tk v r e c = some (r, e + 1, c) → j_X10_takes_191 post (nI r) (nI e) (nI c) (gI gm) na t := fun t hv9 ht hlt h => by
    unfold j_X10_takes_191
    rw [nI4, nI_clamp (by omega), ht]
    refine ⟨pk_in _ 24 hlt, fun na' hna => ?_⟩
    have l6 := lv1_lt v
    unfold stv
    rw [gI_le (by omega) (by omega)]
    have key := C hv9 h na' hna
    refine ⟨fun q => ?_, fun q => ?_⟩
    · rw [show mx gm (lv1 v) = gm from by unfold mx; rw [if_neg (by omega)]] at key
      exact key
    · rw [show mx gm (lv1 v) = lv1 v from by unfold mx; rw [if_pos (by omega)]] at key
      exact key
  have F0 : tk v r e c = none → j_X10_takes_170 post (nI r) (nI e) (nI c) (gI gm) na (nI v) 0 := fun h => ⟨fun _ => H0 h, fun q => absurd rfl q⟩
  have F1 : ¬ v = 59 → (v = 45 ∨ (97 ≤ v ∧ v ≤ 102)) → e < (if c = 0 then 4 else c) → j_X10_takes_170 post (nI r) (nI e) (nI c) (gI gm) na (nI v) 1 := fun hv9 hl he => by
    have hts : tk v r e c = some (r, e + 1, c) := by unfold tk; rw [if_neg hv9, if_pos ⟨hl, he⟩]
    have hlt : 4 * r + e < 24 := by
      by_cases hc : c = 0
      · rw [if_pos hc] at he; omega
      · rw [if_neg hc] at he; omega
    refine ⟨fun q => absurd q (by decide), fun _ => pk_eq v 45 (fun h45 => D _ hv9 ?_ hlt hts) (fun h45 => D _ hv9 ?_ hlt hts)⟩
    · subst h45; decide
    · rw [show (97 : Int32) = nI 97 from rfl, pk_sub (by omega)]
      have h97 : 97 ≤ v ∧ v ≤ 102 := by omega
      simp only [stv, gI, lv1, if_pos h97]
      rw [if_neg (by omega)]
      congr 1
  have G : ∀ m, m = (if c = 0 then 4 else c) → j_X10_takes_15 post (nI r) (nI e) (nI c) (gI gm) na (nI v) (nI m) := by
    intro m hm
    have m4 : m ≤ 4 := by rw [hm]; split <;> omega
    have nn : ¬ v = 59 → ¬ (v = 45 ∨ (97 ≤ v ∧ v ≤ 102)) → tk v r e c = none := fun a b => by unfold tk; rw [if_neg a, if_neg (fun q => b q.1)]
    have ne : ¬ v = 59 → m ≤ e → tk v r e c = none := fun a b => by unfold tk; rw [if_neg a, if_neg (fun q => absurd q.2 (by omega))]
    refine pk_eq v 59 (fun h59 => pk_eq c 0 (fun hc => pk_le e 1 (fun h => B 0 h59 (Or.inl ⟨rfl, by rw [if_pos hc]; omega⟩)) (fun h => B 1 h59 (Or.inr ⟨rfl, by rw [if_pos hc]; omega⟩))) (fun hc => pk_eq e c (fun h => B 1 h59 (Or.inr ⟨rfl, by rw [if_neg hc]; exact h⟩)) (fun h => B 0 h59 (Or.inl ⟨rfl, by rw [if_neg hc]; exact h⟩)))) (fun h59 => ?_)
    refine pk_eq v 45 (fun h45 => pk_le m e (fun h => F0 (ne h59 h)) (fun h => F1 h59 (Or.inl h45) (by omega))) (fun h45 => ?_)
    refine s_within (fun a => ⟨fun _ => F0 (nn h59 ?_), fun q => absurd rfl q⟩) (fun a => ⟨fun _ => F0 (nn h59 ?_), fun q => absurd rfl q⟩) (fun a b => ⟨fun q => absurd q (by decide), fun _ => pk_le m e (fun h => F0 (ne h59 h)) (fun h => F1 h59 (Or.inr ?_) (by omega))⟩)
    · rw [show (97 : Int32) = nI 97 from rfl, nI_ltI (by omega) (by omega)] at a; omega
    · rw [show (102 : Int32) = nI 102 from rfl, nI_ltI (by omega) (by omega)] at a; omega
    · rw [show (97 : Int32) = nI 97 from rfl, nI_ltI (by omega) (by omega)] at a
      rw [show (102 : Int32) = nI 102 from rfl, nI_ltI (by omega) (by omega)] at b
      omega
  exact pk_eq c 0 (fun hc => G 4 (by rw [if_pos hc])) (fun hc => G c (by rw [if_neg hc]))
/-- how far the letters go -/
def pr (v : Nat → Nat) : Nat → Option (Nat × Nat × Nat)
  | 0 => some (0, 0, 0)
  | i + 1 => match pr v i with
    | some q => tk (v i) q.1 q.2.1 q.2.2
    | none => none
def FR (v : Nat → Nat) (len f r e c : Nat) : Prop := f ≤ len ∧ pr v f = some (r, e, c) ∧ (f < len → pr v (f + 1) = none)
theorem pr_none {v : Nat → Nat} {i : Nat} (h : pr v i = none) : ∀ k, i ≤ k → pr v k = none := by
  intro k hk
  induction k with
  | zero => have : i = 0 := by omega
            subst this; exact h
  | succ k ih =>
    by_cases e : i = k + 1
    · subst e; exact h
    · rw [pr, ih (by omega)]
theorem FR_eq {v : Nat → Nat} {len f r e c f' r' e' c' : Nat} (h : FR v len f r e c) (h' : FR v len f' r' e' c') : f = f' ∧ r = r' ∧ e = e' ∧ c = c' := by
  obtain ⟨h1, h2, h3⟩ := h
  obtain ⟨q1, q2, q3⟩ := h'
  have e0 : f = f' := by
    rcases Nat.lt_trichotomy f f' with h | h | h
    · have := pr_none (h3 (by omega)) f' (by omega)
      rw [this] at q2; cases q2
    · exact h
    · have := pr_none (q3 (by omega)) f (by omega)
      rw [this] at h2; cases h2
  subst e0
  rw [h2] at q2
  simp only [Option.some.injEq, Prod.mk.injEq] at q2
  exact ⟨rfl, q2.1, q2.2.1, q2.2.2⟩
def gmx (v : Nat → Nat) : Nat → Nat
  | 0 => 0
  | i + 1 => mx (gmx v i) (lv1 (v i))
theorem gmx_le (v : Nat → Nat) (i : Nat) : gmx v i ≤ 6 := by
  induction i with
  | zero => exact Nat.zero_le _
  | succ i ih =>
    have := lv1_lt (v i)
    rw [gmx]
    unfold mx
    split <;> omega
/-- the entries that were read: those of the rows that are done, and those of this one -/
def rdM (v : Nat → Nat) (r e c : Nat) (na : Nat → Int32) : Prop := ∀ s k, (s < r ∧ k < c) ∨ (s = r ∧ k < e) → na (4 * s + k) = stv (v (s * (c + 1) + k))
theorem rd_tk {v : Nat → Nat} {i r e c r' e' c' : Nat} {na : Nat → Int32} (hI : pinv r e c) (hi : i = r * (c + 1) + e) (h : rdM v r e c na) (ht : tk (v i) r e c = some (r', e', c')) : i + 1 = r' * (c' + 1) + e' ∧ rdM v r' e' c' (if v i = 59 then na else upd na (4 * r + e) (stv (v i))) := by
  obtain ⟨h1, h2, h3, h4, h5⟩ := hI
  rcases tk_cases ht with ⟨h59, q1, q2, rfl, rfl, rfl⟩ | ⟨h59, hl, q2, rfl, rfl, rfl⟩
  · rw [if_pos h59]
    by_cases hc : c = 0
    · have hr : r = 0 := h4.mp hc
      subst hr
      subst hc
      refine ⟨by omega, fun s k hsk => ?_⟩
      have hs : s = 0 ∧ k < c' := by omega
      obtain ⟨rfl, hk⟩ := hs
      have := h 0 k (Or.inr ⟨rfl, hk⟩)
      simpa using this
    · rw [if_neg hc] at q1
      subst q1
      refine ⟨by rw [hi, Nat.succ_mul]; omega, fun s k hsk => ?_⟩
      refine h s k ?_
      omega
  · rw [if_neg h59]
    refine ⟨by omega, fun s k hsk => ?_⟩
    have he3 : e < 4 := by
      by_cases hc : c' = 0
      · rw [if_pos hc] at q2; exact q2
      · rw [if_neg hc] at q2; omega
    by_cases hx : s = r' ∧ k = e
    · obtain ⟨rfl, rfl⟩ := hx
      rw [pk_us, hi]
    · rw [pk_un (by omega)]
      exact h s k (by omega)
theorem s_readPage {post : Int32 → Int32 → Int32 → Int32 → Int32 → (Nat → Int32) → Prop} {pg na : Nat → Int32} {v : Nat → Nat} {len : Nat} {a b c d : Int32} (hl : len ≤ 40) (hv : ∀ i, i < len → pg i = nI (v i) ∧ v i < 128) (H : ∀ f r e c na', FR v len f r e c → pinv r e c → rdM v r e c na' → f = r * (c + 1) + e → post (nI f) (nI r) (nI e) (nI c) (gI (gmx v f)) na') : wp_X10_readPage post (nI len) pg a b c d na := by
  have key : ∀ n i r e c na, i ≤ len → len - i < n → pr v i = some (r, e, c) → pinv r e c → rdM v r e c na → i = r * (c + 1) + e → w_X10_readPage_22 (fun a b c d e f => post a b c d e f) (nI len) pg n (nI i) (nI r) (nI e) (nI c) (gI (gmx v i)) na := by
    intro n
    induction n with
    | zero => intro i r e c na h1 h2; omega
    | succ n ih =>
      intro i r e c na h1 h2 h3 h4 h5 h6
      refine pk_le len i (fun hle => H i r e c na ⟨h1, h3, fun q => absurd q (by omega)⟩ h4 h5 h6) (fun hlt => ⟨pk_in i 40 (by omega), ?_⟩)
      obtain ⟨ev, hv2⟩ := hv i hlt
      rw [nI_clamp (show i < 2 ^ 31 by omega), ev]
      refine s_takes hv2 h4 (gmx_le v i) (fun hn => ⟨fun _ => H i r e c na ⟨h1, h3, fun _ => by rw [pr, h3]; exact hn⟩ h4 h5 h6, fun q => absurd rfl q⟩) (fun r' e' c' hs => ⟨fun q => absurd q (by decide), fun _ z hz => ?_⟩)
      rw [hz, nI_p1 i]
      obtain ⟨q1, q2⟩ := rd_tk h4 h6 h5 hs
      exact ih (i + 1) r' e' c' _ (by omega) (by omega) (by rw [pr, h3]; exact hs) (tk_inv h4 hs) q2 q1
  exact ⟨len + 1, key (len + 1) 0 0 0 0 na (by omega) (by omega) rfl ⟨by omega, by omega, by omega, by omega, fun q => absurd rfl q⟩ (fun s k h => by omega) rfl⟩
