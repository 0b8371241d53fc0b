/-! all products of a signal: the class's cubes -/
def fr (al a : Nat) : Nat := al &&& (127 ^^^ a)
def ixN (o c : Nat) : Nat := t3 o + 2 * t3 c
theorem fr_i : ∀ al, al < 128 → ∀ a, a < 128 → nI al &&& (nI a ^^^ (-1)) = nI (fr al a) := by decide +kernel
theorem fr_b : ∀ al, al < 128 → ∀ a, a < 128 → a &&& al = a → al &&& (127 ^^^ fr al a) = a := by decide +kernel
def dg3 (i : Nat) (d : Nat) : Nat := (if i % 3 = d then 1 else 0) + 2 * (if i / 3 % 3 = d then 1 else 0) + 4 * (if i / 9 % 3 = d then 1 else 0) + 8 * (if i / 27 % 3 = d then 1 else 0) + 16 * (if i / 81 % 3 = d then 1 else 0) + 32 * (if i / 243 % 3 = d then 1 else 0) + 64 * (if i / 729 % 3 = d then 1 else 0)
theorem ix_d : ∀ c, c < 128 → ∀ o, o < 128 → o &&& c = 0 → ixN o c < 2187 ∧ dg3 (ixN o c) 1 = o ∧ dg3 (ixN o c) 2 = c := by decide +kernel
theorem sub_le {o a : Nat} (h : o &&& a = o) : o ≤ a := by rw [← h]; exact Nat.and_le_right
theorem sub_tr2 {o a b : Nat} (h1 : o &&& a = o) (h2 : a &&& b = a) : o &&& b = o := by rw [← h1, Nat.and_assoc, h2]
theorem fr_0 {al a o : Nat} (h : o &&& a = o) (ha : a < 128) : o &&& fr al a = 0 := by
  have h0 : ∀ a, a < 128 → a &&& (127 ^^^ a) = 0 := by decide +kernel
  unfold fr
  rw [Nat.and_comm al, ← Nat.and_assoc, ← h, Nat.and_assoc o a, h0 a ha, Nat.and_zero, Nat.zero_and]
theorem fr_lt {al a : Nat} (h : al < 128) : fr al a < 128 := Nat.lt_of_le_of_lt Nat.and_le_left h
theorem ix_inj {al a o a' o' : Nat} (hal : al < 128) (ha : a &&& al = a) (ho : o &&& a = o) (ha' : a' &&& al = a') (ho' : o' &&& a' = o') (h : ixN o (fr al a) = ixN o' (fr al a')) : a = a' ∧ o = o' := by
  have l1 := sub_le ha
  have l2 := sub_le ho
  have l3 := sub_le ha'
  have l4 := sub_le ho'
  have d1 := ix_d (fr al a) (fr_lt hal) o (by omega) (fr_0 ho (by omega))
  have d2 := ix_d (fr al a') (fr_lt hal) o' (by omega) (fr_0 ho' (by omega))
  refine ⟨?_, ?_⟩
  · rw [← fr_b al hal a (by omega) ha, ← fr_b al hal a' (by omega) ha', ← d1.2.2, ← d2.2.2, h]
  · rw [← d1.2.1, ← d2.2.1, h]
theorem g_indexOf {post : Int32 → Prop} {it : Nat → Int32} {al a o : Nat} (hal : al < 128) (h3 : ∀ k, k < 128 → it k = nI (t3 k)) (ha : a &&& al = a) (ho : o &&& a = o) (H : post (nI (ixN o (fr al a)))) : wp_X1_indexOf post it (nI al) (nI a) (nI o) := by
  have l1 := sub_le ha
  have l2 := sub_le ho
  have e1 : (nI o &&& nI a) &&& nI al = nI o := by rw [nx_and, ho, nx_and, sub_tr2 ho ha]
  unfold wp_X1_indexOf
  rw [e1, fr_i al hal a (by omega)]
  have hf := fr_lt (a := a) hal
  refine ⟨pk_in o 128 (by omega), pk_in (fr al a) 128 hf, ?_⟩
  rw [nI_clamp (show o < 2 ^ 31 by omega), nI_clamp (show fr al a < 2 ^ 31 by omega), h3 o (by omega), h3 _ hf, show (2 : Int32) = nI 2 from rfl, pk_mul, nI_add]
  exact H
/-! the sets below a mask, in order -/
def nxs (a o : Nat) : Nat := (o + 128 - a) % 128 &&& a
def px : Nat → Nat → Nat → Nat
  | 0, _, _ => 0
  | n + 1, a, o => if a % 2 = 1 then o % 2 + 2 * px n (a / 2) (o / 2) else px n (a / 2) (o / 2)
theorem en1 : ∀ a, a < 128 → ∀ o, o < 128 → o &&& a = o → (nI o - nI a) &&& nI a = nI (nxs a o) := by decide +kernel
def en2B (a o : Nat) : Bool := !(o &&& a == o) || (o == a) || (Nat.blt o (nxs a o) && ((nxs a o &&& a == nxs a o) && ((px 7 a (nxs a o) == px 7 a o + 1) && Nat.blt (px 7 a o) (px 7 a a))))
theorem en2A : ∀ a, a < 128 → ∀ o, o < 128 → en2B a o = true := by decide +kernel
theorem en2 (a : Nat) (ha : a < 128) (o : Nat) (hl : o < 128) (ho : o &&& a = o) (hn : o ≠ a) : o < nxs a o ∧ nxs a o &&& a = nxs a o ∧ px 7 a (nxs a o) = px 7 a o + 1 ∧ px 7 a o < px 7 a a := by
  have h := en2A a ha o hl
  unfold en2B at h
  rw [beq_iff_eq.mpr ho, beq_eq_false_iff_ne.mpr hn, Bool.not_true, Bool.false_or, Bool.false_or, Bool.and_eq_true, Bool.and_eq_true, Bool.and_eq_true, beq_iff_eq, beq_iff_eq] at h
  exact ⟨Nat.blt_eq.mp h.1, h.2.1, h.2.2.1, Nat.blt_eq.mp h.2.2.2⟩
def en3B (a o : Nat) : Bool := !(o &&& a == o) || (List.range (nxs a o)).all (fun q => !(Nat.blt o q) || !(q &&& a == q))
theorem en3A : ∀ a, a < 128 → ∀ o, o < 128 → en3B a o = true := by decide +kernel
theorem en3 (a : Nat) (ha : a < 128) (o : Nat) (hl : o < 128) (ho : o &&& a = o) (q : Nat) (hq : q < nxs a o) (hoq : o < q) : ¬ q &&& a = q := by
  have h := en3A a ha o hl
  unfold en3B at h
  rw [beq_iff_eq.mpr ho, Bool.not_true, Bool.false_or] at h
  have h2 := List.all_eq_true.mp h q (List.mem_range.mpr hq)
  rw [Nat.blt_eq.mpr hoq, Bool.not_true, Bool.false_or, Bool.not_eq_true'] at h2
  exact beq_eq_false_iff_ne.mp h2
theorem en4 : ∀ a, a < 128 → (1 : Int32) <<< (pcI (nI a) &&& 31) = nI (px 7 a a + 1) ∧ px 7 a 0 = 0 ∧ px 7 a a < 128 := by decide +kernel
def lb (f : Nat) : Nat := f &&& (128 - f)
theorem lb_i : ∀ f, f < 128 → nI f &&& (-(nI f)) = nI (lb f) := by decide +kernel
theorem lb_s : ∀ f, f < 128 → (f = 0 ∧ lb f = 0) ∨ ∃ k, k < 7 ∧ lb f = 2 ^ k ∧ f.testBit k = true := by decide +kernel
/-! what is seen in a product -/
noncomputable def svP (p q : Prop) : Nat := @ite _ p (Classical.propDecidable p) 1 0 ||| @ite _ q (Classical.propDecidable q) 2 0
theorem svP_v (p q : Prop) : (p ∧ q ∧ svP p q = 3) ∨ (p ∧ ¬ q ∧ svP p q = 1) ∨ (¬ p ∧ q ∧ svP p q = 2) ∨ (¬ p ∧ ¬ q ∧ svP p q = 0) := by
  unfold svP
  by_cases a : p <;> by_cases b : q <;> simp [a, b]
theorem svP_1 {p q : Prop} : svP p q = 1 ↔ p ∧ ¬ q := by
  rcases svP_v p q with ⟨a, b, c⟩ | ⟨a, b, c⟩ | ⟨a, b, c⟩ | ⟨a, b, c⟩
  · rw [c]; exact ⟨fun h => absurd h (by decide), fun h => absurd b h.2⟩
  · rw [c]; exact ⟨fun _ => ⟨a, b⟩, fun _ => rfl⟩
  · rw [c]; exact ⟨fun h => absurd h (by decide), fun h => absurd h.1 a⟩
  · rw [c]; exact ⟨fun h => absurd h (by decide), fun h => absurd h.1 a⟩
theorem svP_or {p q p' q' : Prop} : svP p q ||| svP p' q' = svP (p ∨ p') (q ∨ q') := by
  unfold svP
  by_cases a : p <;> by_cases b : q <;> by_cases c : p' <;> by_cases d : q' <;> simp [a, b, c, d]
theorem svP_4 (p q : Prop) : svP p q < 4 := by
  rcases svP_v p q with ⟨_, _, c⟩ | ⟨_, _, c⟩ | ⟨_, _, c⟩ | ⟨_, _, c⟩ <;> rw [c] <;> decide
theorem svP_cg {p q p' q' : Prop} (h1 : p ↔ p') (h2 : q ↔ q') : svP p q = svP p' q' := by rw [show p = p' from propext h1, show q = q' from propext h2]
noncomputable def SV (P : Nat) (w : Nat → Int32) (a o : Nat) : Nat := svP (hasOneP P w a o) (¬ clean P w a o)
/-- a product and its two halves -/
theorem spl {x a o k : Nat} (hk : a.testBit k = false) (ho : o &&& a = o) : x &&& a = o ↔ x &&& (a ||| 2 ^ k) = o ∨ x &&& (a ||| 2 ^ k) = o ||| 2 ^ k := by
  have ea : (a ||| 2 ^ k) &&& a = a := by
    rw [Nat.and_or_distrib_right, Nat.and_self, Nat.and_comm (2 ^ k), (and_p2 a k).2 hk, Nat.or_zero]
  constructor
  · intro h
    rw [Nat.and_or_distrib_left, h]
    cases hx : x.testBit k
    · left; rw [(and_p2 x k).2 hx, Nat.or_zero]
    · right; rw [(and_p2 x k).1 hx]
  · rintro (h | h)
    · rw [← ea, ← Nat.and_assoc, h, ho]
    · rw [← ea, ← Nat.and_assoc, h, Nat.and_or_distrib_right, ho, Nat.and_comm (2 ^ k), (and_p2 a k).2 hk, Nat.or_zero]
theorem SV_spl {P a o k : Nat} {w : Nat → Int32} (hk : a.testBit k = false) (ho : o &&& a = o) : SV P w a o = SV P w (a ||| 2 ^ k) o ||| SV P w (a ||| 2 ^ k) (o ||| 2 ^ k) := by
  unfold SV
  rw [svP_or]
  refine svP_cg ⟨?_, ?_⟩ ⟨?_, ?_⟩
  · rintro ⟨x, h1, h2, h3⟩
    rcases (spl hk ho).mp h3 with h | h
    · exact Or.inl ⟨x, h1, h2, h⟩
    · exact Or.inr ⟨x, h1, h2, h⟩
  · rintro (⟨x, h1, h2, h3⟩ | ⟨x, h1, h2, h3⟩)
    · exact ⟨x, h1, h2, (spl hk ho).mpr (Or.inl h3)⟩
    · exact ⟨x, h1, h2, (spl hk ho).mpr (Or.inr h3)⟩
  · intro h
    apply Classical.byContradiction
    intro hn
    apply h
    intro x h1 h2 h3
    rcases (spl hk ho).mp h3 with h4 | h4
    · exact hn (Or.inl (fun c => c x h1 h2 h4))
    · exact hn (Or.inr (fun c => c x h1 h2 h4))
  · rintro (h | h) hc
    · exact h (fun x h1 h2 h3 => hc x h1 h2 ((spl hk ho).mpr (Or.inl h3)))
    · exact h (fun x h1 h2 h3 => hc x h1 h2 ((spl hk ho).mpr (Or.inr h3)))
theorem SV_pt {g o : Nat} {w : Nat → Int32} (hg : g ≤ 5) (ho : o < 4 * 2 ^ g) : SV (4 * 2 ^ g) w (4 * 2 ^ g - 1) o = svP (w o = 1) (w o = 0) := by
  unfold SV
  have hx : ∀ x, x < 4 * 2 ^ g → x &&& (4 * 2 ^ g - 1) = x := fun x h => bt_c4 g (by omega) x h
  refine svP_cg ⟨?_, ?_⟩ ⟨?_, ?_⟩
  · rintro ⟨x, h1, h2, h3⟩
    rw [hx x h1] at h3
    rw [← h3]; exact h2
  · intro h
    exact ⟨o, ho, h, hx o ho⟩
  · intro h
    apply Classical.byContradiction
    intro hn
    apply h
    intro x h1 h2 h3
    rw [hx x h1] at h3
    rw [h3] at h2
    exact hn h2
  · intro h hc
    exact hc o ho h (hx o ho)
theorem by_4 : ∀ x, x < 4 → vp_nar .byte (nI x).toInt8.toInt32 = nI x := by
  have h : ∀ x, x < 4 → (nI x).toInt8.toInt32 = nI x := by decide +kernel
  intro x hx
  rw [pk_vb, h x hx]
/-- the rows hold what is seen in all products from a mask on -/
def seenK (g : Nat) (w : Nat → Int32) (se : Nat → Int32) (i : Nat) : Prop := ∀ a o, i ≤ a → a < 4 * 2 ^ g → o &&& a = o → se (ixN o (fr (4 * 2 ^ g - 1) a)) = nI (SV (4 * 2 ^ g) w a o)
theorem g_seenAt {post : Int32 → Prop} {x : Int32} (h : x = -1 ∨ x = 0 ∨ x = 1) (H : post (nI (svP (x = 1) (x = 0)))) : wp_X1_seenAtPoint post x := by
  rcases svP_v (x = 1) (x = 0) with ⟨a, b, c⟩ | ⟨a, b, c⟩ | ⟨a, b, c⟩ | ⟨a, b, c⟩
  · rw [a] at b; exact absurd b (by decide)
  · rw [c] at H
    exact ⟨fun q => absurd (a.symm.trans q) (by decide), fun _ => ⟨fun _ => H, fun q => absurd a q⟩⟩
  · rw [c] at H
    exact ⟨fun q => absurd (b.symm.trans q) (by decide), fun _ => ⟨fun q => absurd q a, fun _ => H⟩⟩
  · rw [c] at H
    have e : x = -1 := h.resolve_right (fun q => q.elim b a)
    exact ⟨fun _ => H, fun q => absurd e q⟩
theorem g_look {post : (Nat → Int32) → Int32 → Prop} {ac se it w : Nat → Int32} {g : Nat} {al x : Int32} (hg : g ≤ 5) (h3 : ∀ k, k < 128 → it k = nI (t3 k)) (hw : ∀ p, p < 128 → wtV x (ac p) = w p) (h01 : ∀ p, w p = -1 ∨ w p = 0 ∨ w p = 1) (H : ∀ se', seenK g w se' 0 → post se' (nI (4 * 2 ^ g - 1))) : wp_X1_look post ac (nI (2 + g)) se it al x := by
  have hq := p4_le hg
  have hpos : 0 < 4 * 2 ^ g := by have := Nat.two_pow_pos g; omega
  have e3 : 2 ^ (2 + g) = 4 * 2 ^ g := by rw [Nat.pow_add]
  refine q_apoints (by omega) ?_
  rw [e3]
  intro f hf
  have hf : f = nI (4 * 2 ^ g - 1) := by rw [hf, show (1 : Int32) = nI 1 from rfl, pk_sub hpos]
  subst hf
  have hin : ∀ a, a < 4 * 2 ^ g → a &&& (4 * 2 ^ g - 1) = a := fun a h => bt_c4 g (by omega) a h
  -- one row
  have inner : ∀ (KE : (Nat → Int32) → Prop) (a : Nat), a < 4 * 2 ^ g → (∀ se', seenK g w se' a → KE se') → ∀ (sp : Nat), (sp = 0 ∧ a = 4 * 2 ^ g - 1) ∨ (∃ k, k < g + 2 ∧ sp = 2 ^ k ∧ a.testBit k = false) → ∀ n o left se, o &&& a = o → left = px 7 a a + 1 - px 7 a o → left < n → seenK g w se (a + 1) → (∀ q, q < o → q &&& a = q → se (ixN q (fr (4 * 2 ^ g - 1) a)) = nI (SV (4 * 2 ^ g) w a q)) → px 7 a o ≤ px 7 a a → w_X1_look_48 KE ac it (nI (4 * 2 ^ g - 1)) x (nI a) (nI sp) (n + 1) (nI o) (nI left) se := by
    intro KE a ha hK sp hsp n
    have ea := en4 a (by omega)
    induction n with
    | zero => intro o left se _ _ h; omega
    | succ n ih =>
      intro o left se ho hl hn hS hD hpx
      have lo := sub_le ho
      have hpxa := ea.2.2
      refine pk_le left 0 (fun hle => absurd hle (by omega)) (fun _ => ?_)
      -- what is written
      have J : j_X1_look_105 (w_X1_look_48 KE ac it (nI (4 * 2 ^ g - 1)) x (nI a) (nI sp) (n + 1)) se it (nI (4 * 2 ^ g - 1)) (nI a) (nI o) (nI left) (nI (SV (4 * 2 ^ g) w a o)) := by
        refine g_indexOf (by omega) h3 (hin a ha) ho ?_
        have hix := ix_d (fr (4 * 2 ^ g - 1) a) (fr_lt (by omega)) o (by omega) (fr_0 ho (by omega))
        refine ⟨pk_in _ 2187 hix.1, fun se2 e2 o2 eo l2 el => ?_⟩
        rw [nI_clamp (show ixN o (fr (4 * 2 ^ g - 1) a) < 2 ^ 31 by omega), by_4 (SV (4 * 2 ^ g) w a o) (svP_4 _ _)] at e2
        have hS2 : seenK g w se2 (a + 1) := fun a' o' h1 h2 h4 => by
          have hne : ixN o' (fr (4 * 2 ^ g - 1) a') ≠ ixN o (fr (4 * 2 ^ g - 1) a) := fun e => by
            have := (ix_inj (by omega) (hin a' h2) h4 (hin a ha) ho e).1
            omega
          rw [e2, pk_un hne]
          exact hS a' o' h1 h2 h4
        have hD2 : ∀ q, q ≤ o → q &&& a = q → se2 (ixN q (fr (4 * 2 ^ g - 1) a)) = nI (SV (4 * 2 ^ g) w a q) := fun q hqo hqa => by
          by_cases e : q = o
          · rw [e, e2, pk_us]
          · have hne : ixN q (fr (4 * 2 ^ g - 1) a) ≠ ixN o (fr (4 * 2 ^ g - 1) a) := fun e' => e (ix_inj (by omega) (hin a ha) hqa (hin a ha) ho e').2
            rw [e2, pk_un hne]
            exact hD q (by omega) hqa
        rw [en1 a (by omega) o (by omega) ho] at eo
        obtain ⟨l1, hl1⟩ : ∃ l1, left = l1 + 1 := ⟨left - 1, by omega⟩
        rw [hl1, pk_m1] at el
        rw [eo, el]
        by_cases eoa : o = a
        · have : l1 = 0 := by rw [eoa] at hl; omega
          rw [this]
          refine ⟨fun _ => hK se2 (fun a' o' h1 h2 h4 => ?_), fun q => absurd (by decide) q⟩
          by_cases e : a' = a
          · rw [e] at h4 ⊢
            exact hD2 o' (by rw [eoa]; exact sub_le h4) h4
          · exact hS2 a' o' (by omega) h2 h4
        · obtain ⟨n1, n2, n3, n4⟩ := en2 a (by omega) o (by omega) ho eoa
          refine ih (nxs a o) l1 se2 n2 (by omega) (by omega) hS2 (fun q hq1 hq2 => hD2 q ?_ hq2) (by omega)
          rcases Nat.lt_or_ge o q with r | r
          · exact absurd hq2 (en3 a (by omega) o (by omega) ho q hq1 r)
          · exact r
      rcases hsp with ⟨e0, ea0⟩ | ⟨k, hk, ek, hkf⟩
      · subst e0
        refine ⟨fun _ => ?_, fun q => absurd rfl q⟩
        refine g_at (by omega) ?_
        rw [hw o (by omega)]
        refine g_seenAt (h01 o) ?_
        have e : SV (4 * 2 ^ g) w a o = svP (w o = 1) (w o = 0) := by
          rw [ea0]
          exact SV_pt hg (by omega)
        rw [← e]
        exact J
      · subst ek
        have hkk : 2 ^ k < 4 * 2 ^ g := by
          have := Nat.pow_lt_pow_right (show 1 < 2 by omega) (show k < 2 + g by omega)
          omega
        have hkp := Nat.two_pow_pos k
        refine pk_eq (2 ^ k) 0 (fun q => absurd q (by omega)) (fun _ => ?_) rfl rfl (by omega) (by omega)
        have hak : a ||| 2 ^ k < 4 * 2 ^ g := by rw [← e3]; exact Nat.or_lt_two_pow (by rw [e3]; exact ha) (by rw [e3]; exact hkk)
        have hgt : a < a ||| 2 ^ k := by
          have h1 : a ≤ a ||| 2 ^ k := Nat.left_le_or
          have h2 : a ≠ a ||| 2 ^ k := fun e => by
            have := congrArg (fun y => y.testBit k) e
            simp only [tb_or, hkf] at this
            exact absurd this (by simp)
          omega
        have ho1 : o &&& (a ||| 2 ^ k) = o := by
          refine sub_tr2 ho ?_
          rw [Nat.and_or_distrib_left, Nat.and_self]
          apply Nat.eq_of_testBit_eq
          intro i
          rw [Nat.testBit_or, Nat.testBit_and]
          cases a.testBit i <;> simp
        have ho2 : (o ||| 2 ^ k) &&& (a ||| 2 ^ k) = o ||| 2 ^ k := by
          rw [Nat.and_or_distrib_right, ho1, Nat.and_comm (2 ^ k), (and_p2 (a ||| 2 ^ k) k).1 (by rw [tb_or, decide_eq_true rfl, Bool.or_true])]
        rw [nI_or, nI_or]
        have hix1 := ix_d (fr (4 * 2 ^ g - 1) (a ||| 2 ^ k)) (fr_lt (by omega)) o (by omega) (fr_0 ho1 (by omega))
        have hix2 := ix_d (fr (4 * 2 ^ g - 1) (a ||| 2 ^ k)) (fr_lt (by omega)) (o ||| 2 ^ k) (by have := sub_le ho2; omega) (fr_0 ho2 (by omega))
        refine g_indexOf (by omega) h3 (hin _ hak) ho1 ⟨pk_in _ 2187 hix1.1, g_indexOf (by omega) h3 (hin _ hak) ho2 ⟨pk_in _ 2187 hix2.1, ?_⟩⟩
        rw [nI_clamp (show ixN o (fr (4 * 2 ^ g - 1) (a ||| 2 ^ k)) < 2 ^ 31 by omega), nI_clamp (show ixN (o ||| 2 ^ k) (fr (4 * 2 ^ g - 1) (a ||| 2 ^ k)) < 2 ^ 31 by omega), hS _ _ hgt hak ho1, hS _ _ hgt hak ho2, nI_or, ← SV_spl hkf ho]
        exact J
  have outer : ∀ n i se, i ≤ 4 * 2 ^ g → i < n → seenK g w se i → w_X1_look_15 (fun (yseen_22 : Nat → Int32) => post yseen_22 (nI (4 * 2 ^ g - 1))) ac it (nI (4 * 2 ^ g - 1)) x n (nI i + (-1)) se := by
    intro n
    induction n with
    | zero => intro i se h1 h2; omega
    | succ n ih =>
      intro i se h1 h2 hS
      cases i with
      | zero =>
        rw [show nI 0 + (-1) = (-1 : Int32) from by decide]
        exact ⟨fun _ => H se hS, fun q => absurd (by decide) q⟩
      | succ a =>
        rw [pk_m1]
        refine pk_lt a 0 (fun q => absurd q (by omega)) (fun _ x4 e4 x5 e5 => ?_)
        rw [fr_i _ (by omega) a (by omega)] at e4
        rw [e4, lb_i _ (fr_lt (by omega))] at e5
        refine g_bitCount (by omega) (fun x7 e7 => ⟨px 7 a a + 1 + 1 + 1, ?_⟩)
        rw [(en4 a (by omega)).1] at e7
        rw [e7, e5]
        refine inner _ a (by omega) (fun se' hS' z hz => ?_) _ ?_ _ 0 (px 7 a a + 1) se (Nat.zero_and _) (by rw [(en4 a (by omega)).2.1]; omega) (by omega) hS (fun q hq => absurd hq (by omega)) (by rw [(en4 a (by omega)).2.1]; omega)
        · rw [hz]
          exact ih a se' (by omega) (by omega) hS'
        · rcases lb_s _ (fr_lt (a := a) (show 4 * 2 ^ g - 1 < 128 by omega)) with ⟨f0, e⟩ | ⟨k, k1, k2, k3⟩
          · left
            refine ⟨e, ?_⟩
            have := fr_b (4 * 2 ^ g - 1) (by omega) a (by omega) (hin a (by omega))
            rw [f0, Nat.xor_zero, and127 _ (by omega)] at this
            exact this.symm
          · right
            unfold fr at k3
            rw [Nat.testBit_and, Bool.and_eq_true] at k3
            refine ⟨k, ?_, k2, ?_⟩
            · rcases Nat.lt_or_ge k (g + 2) with q | q
              · exact q
              · have : (4 * 2 ^ g - 1).testBit k = false := Nat.testBit_lt_two_pow (Nat.lt_of_lt_of_le (show 4 * 2 ^ g - 1 < 2 ^ (2 + g) by omega) (Nat.pow_le_pow_right (by omega) (by omega)))
                rw [this] at k3
                exact absurd k3.1 (by decide)
            · have h127 : ∀ k, k < 7 → (127 : Nat).testBit k = true := by decide
              have := k3.2
              rw [Nat.testBit_xor, h127 k k1] at this
              cases ha : a.testBit k
              · rfl
              · rw [ha] at this; exact absurd this (by decide)
  have := outer (4 * 2 ^ g + 1) (4 * 2 ^ g) se (Nat.le_refl _) (by omega) (fun a o h1 h2 => absurd h2 (by omega))
  have e : nI (4 * 2 ^ g) + (-1) = nI (4 * 2 ^ g - 1) := by
    obtain ⟨m, hm⟩ : ∃ m, 4 * 2 ^ g = m + 1 := ⟨4 * 2 ^ g - 1, by omega⟩
    rw [hm, pk_m1]
    rfl
  rw [e] at this
  exact ⟨_, this⟩
