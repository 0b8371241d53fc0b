/-! the calls that change the code and the walk -/
theorem msk_iff {x : Int32} {st : Nat} (h : st ≤ 6) : (x &&& ((nI (2 ^ st) - 1) ^^^ (-1))) = 0 ↔ inr (2 ^ st) x := by
  have hq := p2_6 h
  have hpos := Nat.two_pow_pos st
  have e : nI (2 ^ st) - 1 = nI (2 ^ st - 1) := by rw [show (1 : Int32) = nI 1 from rfl, pk_sub hpos]
  have hm : (nI (2 ^ st - 1)).toBitVec.toNat = 2 ^ st - 1 := pk_tn (by omega)
  rw [e]
  constructor
  · intro q
    have q := sub_iff.mp q
    have e2 : x &&& nI (2 ^ st - 1) = x := bq_ext (fun i hi => by
      rw [bq_and]
      cases hx : bq x i
      · rfl
      · rw [q i hi hx]; rfl)
    rw [pk_and x st hm] at e2
    exact ⟨_, Nat.mod_lt _ hpos, e2.symm⟩
  · rintro ⟨j, hj, rfl⟩
    have e2 := pk_andN (n := j) (show j < 2 ^ 32 by omega) st hm
    rw [Nat.mod_eq_of_lt hj] at e2
    refine sub_iff.mpr (fun i hi q => ?_)
    have := congrArg (fun y => bq y i) e2
    simp only [bq_and, q] at this
    simpa using this
theorem nm_cs {st co : Nat} {E : Nat → Nat → Int32} {nm : Int32} {A B : Prop} (h1 : NRM st co E → nm = 1) (h0 : ¬ NRM st co E → nm = 0) (f : ¬ NRM st co E → A) (g : NRM st co E → B) : (nm = 0 → A) ∧ (¬ nm = 0 → B) :=
  ⟨fun q => f (fun w => by rw [h1 w] at q; exact absurd q (by decide)), fun q => g (Classical.byContradiction (fun w => q (h0 w)))⟩
section CALLS1
variable {st co gN : Nat} {E : Nat → Nat → Int32} {sg en lo hi ls ss cd ac rd la : Nat → Int32} {un mo sb am nm pz lz gz bz lm ld x x1 x2 : Int32}
theorem g_put {post : Int32 → Int32 → (Nat → Int32) → (Nat → Int32) → Int32 → (Nat → Int32) → Int32 → (Nat → Int32) → Prop} (hT : okE st co E) (hE : eqE st co en E) (hK : cK st co E gN sg un mo sb am nm lo hi pz ls lz ss cd gz ac bz)
    (H0 : ¬ NRM st co E → post (-1003) un ss cd gz ac bz rd) (H1 : NRM st co E → ¬ inr (2 ^ st) x → post (-1002) un ss cd gz ac bz rd) (H2 : NRM st co E → inr (2 ^ st) x → ¬ gN < 5 → post (-1004) un ss cd gz ac bz rd)
    (H3 : NRM st co E → inr (2 ^ st) x → gN < 5 → ∀ un' ss' cd' gz' ac' bz' rd', cK st co E (gN + 1) (psh sg gN x) un' mo sb am nm lo hi pz ls lz ss' cd' gz' ac' bz' → (∀ k, k < 5 → rd' k = 0) → post (nI (gN + 1)) un' ss' cd' gz' ac' bz' rd') : wp_X9_put post un en (nI st) (nI co) nm lo hi pz ss cd gz ac bz rd x := by
  obtain ⟨⟨m1, m2, m3, m4, m5⟩, hp, hl, ⟨hG, e1, hC⟩, hu, ha⟩ := hK
  subst e1
  refine nm_cs m4 m5 H0 (fun hN => ?_)
  unfold wp_X2_allStates
  rw [sh1 st (by have := hT.1; omega)]
  dsimp only
  rw [msk_iff hT.1]
  refine ⟨fun q => g_add hG.1 (fun h => ⟨fun _ => H2 hN q h, fun q1 => absurd rfl q1⟩) (fun h cd' hc => ⟨fun q1 => absurd q1 (by decide), fun _ => ?_⟩), fun q => H1 hN q⟩
  have hC' : cdOK (psh sg gN x) cd' (gN + 1) := fun s hs => by rw [hc s hs, psh_cd, hC s hs]
  have hG' : gnK st co E (gN + 1) (psh sg gN x) (upd ss gN x) := ⟨by omega, fun w => absurd hN w, psh_up hG.2.2⟩
  exact g_settle hT hE m4 m5 hp hG' hC' ha.1 (fun ac' bz' rd' ha' hr => H3 hN q h _ _ _ _ _ _ _ ⟨⟨m1, m2, m3, m4, m5⟩, hp, hl, ⟨hG', rfl, hC'⟩, rfl, ha'⟩ hr)
theorem g_clear {post : Int32 → Int32 → (Nat → Int32) → Int32 → (Nat → Int32) → Int32 → (Nat → Int32) → Prop} (hT : okE st co E) (hE : eqE st co en E) (hK : cK st co E gN sg un mo sb am nm lo hi pz ls lz ss cd gz ac bz)
    (H0 : ¬ NRM st co E → post (-1003) un cd gz ac bz rd)
    (H1 : NRM st co E → ∀ un' cd' gz' ac' bz' rd', cK st co E 0 sg un' mo sb am nm lo hi pz ls lz ss cd' gz' ac' bz' → (∀ k, k < 5 → rd' k = 0) → post (nI gN) un' cd' gz' ac' bz' rd') : wp_X9_clear post un en (nI st) (nI co) nm lo hi pz ss cd gz ac bz rd := by
  obtain ⟨⟨m1, m2, m3, m4, m5⟩, hp, hl, ⟨hG, e1, hC⟩, hu, ha⟩ := hK
  subst e1
  refine nm_cs m4 m5 H0 (fun hN => g_empty (fun cd' hc => ?_))
  have hC' : cdOK sg cd' 0 := fun s hs => hc s hs
  have hG' : gnK st co E 0 sg ss := ⟨by omega, fun _ => rfl, fun i hi => absurd hi (by omega)⟩
  exact g_settle hT hE m4 m5 hp hG' hC' ha.1 (fun ac' bz' rd' ha' hr => H1 hN _ _ _ _ _ _ ⟨⟨m1, m2, m3, m4, m5⟩, hp, hl, ⟨hG', rfl, hC'⟩, rfl, ha'⟩ hr)
theorem r_put {post : Int32 → Int32 → (Nat → Int32) → Int32 → Prop} (hT : okE st co E) (hE : eqE st co en E) (hK : rK st co E gN sg pz lo hi lm la gz ss)
    (H0 : ¬ NRM st co E → post (-1003) gz ss ld) (H1 : NRM st co E → ¬ inr (2 ^ st) x → post (-1002) gz ss ld) (H2 : NRM st co E → inr (2 ^ st) x → ¬ gN < 5 → post (-1004) gz ss ld)
    (H3 : NRM st co E → inr (2 ^ st) x → gN < 5 → ∀ gz' ss', rK st co E (gN + 1) (psh sg gN x) pz lo hi lm la gz' ss' → post (nI (gN + 1)) gz' ss' (-1)) : wp_X10_put post (nI st) (nI co) en gz ss ld x := by
  obtain ⟨hp, hl, hG, e1⟩ := hK
  subst e1
  have hq := p2_6 hT.1
  have h5 := hG.1
  refine r_isNormal hT hE (fun hN => ⟨fun q => absurd q (by decide), fun _ => ?_⟩) (fun hN => ⟨fun _ => H0 hN, fun q => absurd rfl q⟩)
  rw [sh1 st (by have := hT.1; omega)]
  refine s_in1 (n := 2 ^ st) (by omega) (fun q => ⟨fun _ => H1 hN q, fun q1 => absurd rfl q1⟩) (fun j hj e => ⟨fun q1 => absurd q1 (by decide), fun _ => pk_eq gN 5 (fun h => H2 hN ⟨j, hj, e⟩ (by omega)) (fun h => ⟨pk_in gN 5 (by omega), fun a ha f hf => ?_⟩)⟩)
  rw [nI_clamp (show gN < 2 ^ 31 by omega)] at ha
  have := H3 hN ⟨j, hj, e⟩ (by omega) (nI (gN + 1)) (upd ss gN x) ⟨hp, hl, ⟨by omega, fun w => absurd hN w, psh_up hG.2.2⟩, rfl⟩
  rw [hf, nI_p1, ha]
  exact this
theorem r_clear {post : Int32 → Int32 → Int32 → Prop} (hT : okE st co E) (hE : eqE st co en E) (hK : rK st co E gN sg pz lo hi lm la gz ss)
    (H0 : ¬ NRM st co E → post (-1003) gz ld) (H1 : NRM st co E → ∀ gz', rK st co E 0 sg pz lo hi lm la gz' ss → post (nI gN) gz' (-1)) : wp_X10_clear post (nI st) (nI co) en gz ld := by
  obtain ⟨hp, hl, hG, e1⟩ := hK
  subst e1
  exact r_isNormal hT hE (fun hN => ⟨fun q => absurd q (by decide), fun _ => H1 hN (nI 0) ⟨hp, hl, ⟨by omega, fun _ => rfl, fun i hi => absurd hi (by omega)⟩, rfl⟩⟩) (fun hN => ⟨fun _ => H0 hN, fun q => absurd rfl q⟩)
theorem g_turn {post : Int32 → Int32 → Int32 → Int32 → Prop} {a b c : Int32} (hT : okE st co E) (hE : eqE st co en E) (hg : gN ≤ 5) (hC : cdOK sg cd gN) (hw : wkM st a) (H0 : ¬ inr co x → post (-1001) a b c) (H1 : inr co x → a = -1 → post (-1003) a b c) (H2 : ∀ j k, j < st → k < co → a = nI j → x = nI k → (E j k = -1 → post (-1003) a b c) ∧ (E j k ≠ -1 → post (E j k) (E j k) (b + 1) (c + pcI (cdF sg gN (nI j) ^^^ cdF sg gN (E j k))))) : wp_X9_turn post en (nI st) (nI co) cd a b c x := by
  have hs := hT.1
  have hc := hT.2.1
  refine h_hasColumn hc (fun q => ⟨fun _ => H0 q, fun q => absurd rfl q⟩) (fun k hk e => ⟨fun q => absurd q (by decide), fun _ => ?_⟩)
  refine h_next hs hc (fun q => ?_) (fun j k2 hj hk2 e1 e2 => ?_)
  · rcases hw with hw | ⟨s, hs2, hw⟩
    · exact ⟨fun _ => H1 ⟨k, hk, e⟩ hw, fun q => absurd rfl q⟩
    · exact absurd ⟨⟨s, hs2, hw⟩, ⟨k, hk, e⟩⟩ q
  · have h2 := H2 j k2 hj hk2 e1 e2
    rw [hE j k2 hj hk2]
    refine ⟨fun h => h2.1 h, fun h => ?_⟩
    obtain ⟨t, ht, et⟩ := (hT.2.2 j k2 hj hk2).resolve_left h
    have h3 := h2.2 h
    rw [et] at h3 ⊢
    rw [e1]
    refine g_changesBetween hg hC (by omega) (by omega) (fun f hf g hg => ?_)
    rw [hf, hg]
    exact h3
theorem pc_0 : pcI ((0 : Int32) ^^^ 0) = 0 := by decide +kernel
theorem r_turn {post : Int32 → Int32 → Int32 → Int32 → Prop} {a b c : Int32} (hT : okE st co E) (hE : eqE st co en E) (hG : gnK st co E gN sg ss) (hw : wkM st a) (H0 : ¬ inr co x → post (-1001) a b c) (H1 : inr co x → a = -1 → post (-1003) a b c) (H2 : ∀ j k, j < st → k < co → a = nI j → x = nI k → (E j k = -1 → post (-1003) a b c) ∧ (E j k ≠ -1 → post (E j k) (E j k) (b + 1) (c + pcI (cdF sg gN (nI j) ^^^ cdF sg gN (E j k))))) : wp_X10_turn post (nI st) (nI co) en (nI gN) ss a b c x := by
  have h6 := hT.1
  have h4 := hT.2.1
  refine s_in1 (n := co) (by omega) (fun q => ⟨fun _ => H0 q, fun q => absurd rfl q⟩) (fun k hk e => ⟨fun q => absurd q (by decide), fun _ => ⟨fun h => H1 ⟨k, hk, e⟩ h, fun hn => ?_⟩⟩)
  obtain ⟨s, hs, e2⟩ : ∃ s, s < st ∧ a = nI s := hw.resolve_left hn
  have h2 := H2 s k hs hk e2 e
  rw [e, e2]
  rw [e2] at h2
  refine r_at hT hE hs hk ⟨fun h => h2.1 h, fun h => r_at hT hE hs hk ?_⟩
  have h3 := h2.2 h
  refine r_isNormal hT hE (fun hN => ⟨fun q => absurd q (by decide), fun _ => r_codeOf hG.1 hG.2.2 (r_codeOf hG.1 hG.2.2 (r_ones (fun f hf f2 hf2 => ?_)))⟩) (fun hN => ⟨fun _ f hf f2 hf2 => ?_, fun q => absurd rfl q⟩)
  · rw [hf, hf2]
    exact h3
  · rw [hf, hf2]
    rw [hG.2.1 hN] at h3
    have e3 : pcI (cdF sg 0 (nI s) ^^^ cdF sg 0 (E s k)) = 0 := pc_0
    rw [e3] at h3
    exact h3
end CALLS1
/-! the calls that only tell -/
noncomputable def FWV (st co : Nat) (W : Nat → Nat → Prop) : Int32 := Classical.epsilon (FWR st co W)
theorem FWR_v {st co : Nat} {W : Nat → Nat → Prop} {r : Int32} (h : FWR st co W r) : r = FWV st co W := FWR_eq h (Classical.epsilon_spec (p := FWR st co W) ⟨r, h⟩)
section TELL
variable (st co : Nat) (E : Nat → Nat → Int32) (gN : Nat) (sg : Nat → Int32) (x y : Int32)
noncomputable def aboF : Int32 := chz (x < 0 ∨ 4 < x) (-1002) (chz (st = 0) (-1003) (chz (x = 0) (chz (NRM st co E) 1 0) (chz (x = 1) (AMS st co E) (chz (x = 2) (MVS st co E) (chz (x = 3) (SBS st co E) (chz (NRM st co E) (nI (PN st co E)) (-1)))))))
noncomputable def prtF : Int32 := chz (y < 0 ∨ 2 < y) (-1002) (chz (NRM st co E) (chz (inr (PN st co E) x) (chz (y = 0) ((PF st co E).2.1 x.toNatClampNeg) (chz (y = 1) ((PF st co E).2.2 x.toNatClampNeg) (kbF sg gN ((PF st co E).2.1 x.toNatClampNeg) ((PF st co E).2.2 x.toNatClampNeg)))) (-1001)) (-1003))
noncomputable def lstF : Int32 := chz (x < -1 ∨ 4 < x) (-1002) (chz (NRM st co E) (chz (x = -1) (lmI (LG st co E)) (chz (x.toNatClampNeg < LG st co E) (lsg st co E x.toNatClampNeg) (-1))) (-1003))
noncomputable def codF : Int32 := chz (inr st x) (chz (NRM st co E) (cdF sg gN x) (-1003)) (-1001)
noncomputable def cddF : Int32 := chz (x < 0 ∨ 5 < x) (-1002) (chz (NRM st co E) (chz (x = 0) (nI gN) (chz (x = 1) (chz (LOS st co E gN sg = 0) 1 0) (chz (x = 2) (LOS st co E gN sg) (chz (x = 3) (WCF st co (WLD st E (cdF sg gN))) (chz (x = 4) (FWV st co (WLD st E (cdF sg gN))) (MCF st co E (cdF sg gN))))))) (-1003))
noncomputable def wanF : Int32 := chz (GOD st co E gN sg) (chz (inr gN x) (chz (inr (4 * 2 ^ gN) y) (wtV x (AIM st co E (cdF sg gN) y.toNatClampNeg)) (-1001)) (-1001)) (-1003)
noncomputable def cntF (pl : Nat) (wa tu ch tr : Int32) : Int32 := chz (x = 0) (nI pl) (chz (x = 1) (nI st) (chz (x = 2) (nI co) (chz (x = 3) wa (chz (x = 4) tu (chz (x = 5) ch (chz (x = 6) tr (-1002)))))))
end TELL
section TOLD
variable {post : Int32 → Prop} {st co gN : Nat} {E : Nat → Nat → Int32} {sg en lo hi ls ss cd ac rd la : Nat → Int32} {un mo sb am nm pz lz gz bz lm ld x y : Int32}
theorem g_about (h6 : st ≤ 6) (hM : maK st co E mo sb am nm) (hp : ptK st co E pz lo hi) (H : post (aboF st co E x)) : wp_X9_about post (nI st) mo sb am nm pz x := by
  obtain ⟨m1, m2, m3, m4, m5⟩ := hM
  unfold aboF at H
  refine ⟨fun a => ?_, fun a => ⟨fun b => ?_, fun b => ?_⟩⟩
  · rw [chz_t (Or.inl a)] at H; exact H
  · rw [chz_f (fun q => q.elim a (i32_le_nlt b))] at H
    refine pk_eq st 0 (fun e => ?_) (fun e => ?_)
    · rw [chz_t e] at H; exact H
    · rw [chz_f e] at H
      refine ⟨fun q0 => ?_, fun q0 => ⟨fun q1 => ?_, fun q1 => ⟨fun q2 => ?_, fun q2 => ⟨fun q3 => ?_, fun q3 => ?_⟩⟩⟩⟩
      · rw [chz_t q0] at H
        exact nm_cs m4 m5 (fun w => by rw [chz_f w] at H; exact H) (fun w => by rw [chz_t w] at H; exact H)
      · rw [chz_f q0, chz_t q1] at H; rw [m3]; exact H
      · rw [chz_f q0, chz_f q1, chz_t q2] at H; rw [m1]; exact H
      · rw [chz_f q0, chz_f q1, chz_f q2, chz_t q3] at H; rw [m2]; exact H
      · rw [chz_f q0, chz_f q1, chz_f q2, chz_f q3] at H
        exact nm_cs m4 m5 (fun w => by rw [chz_f w] at H; exact H) (fun w => by rw [chz_t w] at H; rw [hp.1]; exact H)
  · rw [chz_t (Or.inr (i32_nle_lt b))] at H; exact H
theorem r_about (hT : okE st co E) (hE : eqE st co en E) (hp : ptK st co E pz lo hi) (H : post (aboF st co E x)) : wp_X10_about post (nI st) (nI co) en pz x := by
  have h6 := hT.1
  unfold aboF at H
  refine s_within (fun a => ⟨fun _ => ?_, fun q => absurd rfl q⟩) (fun a => ⟨fun _ => ?_, fun q => absurd rfl q⟩) (fun a b => ⟨fun q => absurd q (by decide), fun _ => ?_⟩)
  · rw [chz_t (Or.inl a)] at H; exact H
  · rw [chz_t (Or.inr a)] at H; exact H
  · rw [chz_f (fun q => q.elim a b)] at H
    refine pk_eq st 0 (fun e => ?_) (fun e => ?_)
    · rw [chz_t e] at H; exact H
    · rw [chz_f e] at H
      refine ⟨fun q0 => ?_, fun q0 => ⟨fun q1 => ?_, fun q1 => ⟨fun q2 => ?_, fun q2 => ⟨fun q3 => ?_, fun q3 => ?_⟩⟩⟩⟩
      · rw [chz_t q0] at H
        exact r_isNormal hT hE (fun w => by rw [chz_t w] at H; exact ⟨fun q => absurd q (by decide), fun _ => H⟩) (fun w => by rw [chz_f w] at H; exact ⟨fun _ => H, fun q => absurd rfl q⟩)
      · rw [chz_f q0, chz_t q1] at H; exact r_amiss hT hE H
      · rw [chz_f q0, chz_f q1, chz_t q2] at H; exact r_movesMany0 hT hE H
      · rw [chz_f q0, chz_f q1, chz_f q2, chz_t q3] at H; exact r_movesMany1 hT hE H
      · rw [chz_f q0, chz_f q1, chz_f q2, chz_f q3] at H
        exact r_isNormal hT hE (fun w => by rw [chz_t w] at H; rw [hp.1]; exact ⟨fun q => absurd q (by decide), fun _ => H⟩) (fun w => by rw [chz_f w] at H; exact ⟨fun _ => H, fun q => absurd rfl q⟩)
theorem g_parting (hT : okE st co E) (hM : maK st co E mo sb am nm) (hp : ptK st co E pz lo hi) (hG : gnK st co E gN sg ss) (H : post (prtF st co E gN sg x y)) : wp_X9_parting post nm lo hi pz ss (nI gN) x y := by
  obtain ⟨m1, m2, m3, m4, m5⟩ := hM
  have h63 := PN_63 hT
  unfold prtF at H
  refine ⟨fun a => ?_, fun a => ⟨fun b => nm_cs m4 m5 (fun w => ?_) (fun w => ?_), fun b => ?_⟩⟩
  · rw [chz_t (Or.inl a)] at H; exact H
  · rw [chz_f (fun q => q.elim a (i32_le_nlt b)), chz_f w] at H; exact H
  · rw [chz_f (fun q => q.elim a (i32_le_nlt b)), chz_t w] at H
    rw [hp.1]
    refine ⟨fun c => ?_, fun c => ?_⟩
    · rw [chz_f (inr_neg c (by omega))] at H; exact H
    · obtain ⟨j, hj, e⟩ := nI_of c
      subst e
      refine pk_lt j (PN st co E) (fun hlt => ?_) (fun hge => ?_)
      · rw [chz_t ⟨j, hlt, rfl⟩, nI_clamp hj] at H
        obtain ⟨e1, e2⟩ := hp.2 j hlt
        refine ⟨fun q0 => ?_, fun q0 => ⟨fun q1 => ?_, fun q1 => ?_⟩⟩
        · rw [chz_t q0, ← e1] at H; exact g_lesser (by omega) hlt H
        · rw [chz_f q0, chz_t q1, ← e2] at H; exact g_greater (by omega) hlt H
        · rw [chz_f q0, chz_f q1, ← e1, ← e2] at H; exact g_keepersOf (by omega) hlt hG.1 hG.2.2 H
      · rw [chz_f (fun q => by obtain ⟨i, hi, e⟩ := q; have := nI_ij hj (by omega) e; omega)] at H; exact H
  · rw [chz_t (Or.inr (i32_nle_lt b))] at H; exact H
theorem r_parting (hT : okE st co E) (hE : eqE st co en E) (hp : ptK st co E pz lo hi) (hG : gnK st co E gN sg ss) (H : post (prtF st co E gN sg x y)) : wp_X10_parting post (nI st) (nI co) en (nI gN) ss pz lo hi x y := by
  have h63 := PN_63 hT
  unfold prtF at H
  rw [hp.1]
  refine s_within (fun a => ⟨fun _ => ?_, fun q => absurd rfl q⟩) (fun a => ⟨fun _ => ?_, fun q => absurd rfl q⟩) (fun a b => ⟨fun q => absurd q (by decide), fun _ => r_isNormal hT hE (fun w => ⟨fun q => absurd q (by decide), fun _ => ?_⟩) (fun w => ⟨fun _ => ?_, fun q => absurd rfl q⟩)⟩)
  · rw [chz_t (Or.inl a)] at H; exact H
  · rw [chz_t (Or.inr a)] at H; exact H
  · rw [chz_f (fun q => q.elim a b), chz_t w] at H
    refine s_in1 (n := PN st co E) (by omega) (fun q => ⟨fun _ => by rw [chz_f q] at H; exact H, fun q1 => absurd rfl q1⟩) (fun j hj e => ⟨fun q1 => absurd q1 (by decide), fun _ => ?_⟩)
    subst e
    rw [chz_t ⟨j, hj, rfl⟩, nI_clamp (show j < 2 ^ 31 by omega)] at H
    obtain ⟨e1, e2⟩ := hp.2 j hj
    unfold wp_X10_partingNow
    rw [nI_clamp (show j < 2 ^ 31 by omega)]
    refine ⟨fun q0 => ⟨pk_in j 80 (by omega), ?_⟩, fun q0 => ⟨fun q1 => ⟨pk_in j 80 (by omega), ?_⟩, fun q1 => ?_⟩⟩
    · rw [chz_t q0, ← e1] at H; exact H
    · rw [chz_f q0, chz_t q1, ← e2] at H; exact H
    · rw [chz_f q0, chz_f q1, ← e1, ← e2] at H; exact r_keptBy (by omega) hG.1 hG.2.2 H
  · rw [chz_f (fun q => q.elim a b), chz_f w] at H; exact H
theorem i32_lt5 {x : Int32} : x < 5 ↔ ¬ 4 < x := by
  rw [Int32.lt_iff_toInt_lt, Int32.lt_iff_toInt_lt, show (5 : Int32).toInt = 5 from by decide, show (4 : Int32).toInt = 4 from by decide]
  omega
theorem i32_m1 {x : Int32} (a : ¬ x < -1) (b : ¬ x = -1) : ¬ x < 0 := by
  intro h
  apply b
  apply Int32.toInt_inj.mp
  rw [Int32.lt_iff_toInt_lt, show (-1 : Int32).toInt = -1 from by decide] at a
  rw [Int32.lt_iff_toInt_lt, show (0 : Int32).toInt = 0 from by decide] at h
  rw [show (-1 : Int32).toInt = -1 from by decide]
  omega
theorem g_least (hM : maK st co E mo sb am nm) (hl : lsK st co E ls) (H : post (lstF st co E x)) : wp_X9_least post nm ls (nI (LG st co E)) x := by
  obtain ⟨m1, m2, m3, m4, m5⟩ := hM
  obtain ⟨l5, lv⟩ := hl
  unfold lstF at H
  refine ⟨fun a => ?_, fun a => ⟨fun b => nm_cs m4 m5 (fun w => ?_) (fun w => ?_), fun b => ?_⟩⟩
  · rw [chz_t (Or.inl a)] at H; exact H
  · rw [chz_f (fun q => q.elim a (i32_lt5.mp b)), chz_f w] at H; exact H
  · rw [chz_f (fun q => q.elim a (i32_lt5.mp b)), chz_t w] at H
    refine ⟨fun q => ?_, fun q => ?_⟩
    · rw [chz_t q] at H
      unfold lmI at H
      refine pk_le (LG st co E) 0 (fun h => ?_) (fun h => ?_)
      · rw [if_pos (show LG st co E = 0 by omega)] at H; exact H
      · rw [if_neg (show ¬ LG st co E = 0 by omega)] at H; exact H
    · rw [chz_f q] at H
      obtain ⟨j, hj, e⟩ := nI_of (i32_m1 a q)
      subst e
      rw [nI_clamp hj] at H ⊢
      refine pk_le (LG st co E) j (fun h => ?_) (fun h => ⟨pk_in j 5 (by omega), ?_⟩)
      · rw [chz_f (by omega)] at H; exact H
      · rw [chz_t h, ← lv j h] at H; exact H
  · rw [chz_t (Or.inr (Classical.byContradiction (fun q => b (i32_lt5.mpr q))))] at H; exact H
theorem r_least (hT : okE st co E) (hE : eqE st co en E) (hl : lsK st co E la) (H : post (lstF st co E x)) : wp_X10_least post (nI st) (nI co) en (lmI (LG st co E)) la x := by
  obtain ⟨l5, lv⟩ := hl
  unfold lstF at H
  refine s_within (fun a => ⟨fun _ => ?_, fun q => absurd rfl q⟩) (fun a => ⟨fun _ => ?_, fun q => absurd rfl q⟩) (fun a b => ⟨fun q => absurd q (by decide), fun _ => r_isNormal hT hE (fun w => ⟨fun q => absurd q (by decide), fun _ => ?_⟩) (fun w => ⟨fun _ => ?_, fun q => absurd rfl q⟩)⟩)
  · rw [chz_t (Or.inl a)] at H; exact H
  · rw [chz_t (Or.inr a)] at H; exact H
  · rw [chz_f (fun q => q.elim a b), chz_t w] at H
    refine ⟨fun q => ?_, fun q => ?_⟩
    · rw [chz_t q] at H; exact H
    · rw [chz_f q] at H
      obtain ⟨j, hj, e⟩ := nI_of (i32_m1 a q)
      subst e
      rw [nI_clamp hj] at H ⊢
      by_cases z : LG st co E = 0
      · rw [chz_f (by omega)] at H
        have e : lmI (LG st co E) = -1 := if_pos z
        rw [e]
        exact ⟨fun _ => H, fun q => absurd rfl q⟩
      · have e : lmI (LG st co E) = nI (LG st co E) := if_neg z
        rw [e]
        refine ⟨fun q => absurd q (m1_ne (by omega)), fun _ => pk_le (LG st co E) j (fun h => ?_) (fun h => ⟨pk_in j 5 (by omega), ?_⟩)⟩
        · rw [chz_f (by omega)] at H; exact H
        · rw [chz_t h, ← lv j h] at H; exact H
  · rw [chz_f (fun q => q.elim a b), chz_f w] at H; exact H
theorem g_code (h6 : st ≤ 6) (hM : maK st co E mo sb am nm) (hC : cdOK sg cd gN) (H : post (codF st co E gN sg x)) : wp_X9_code post (nI st) nm cd x := by
  obtain ⟨m1, m2, m3, m4, m5⟩ := hM
  unfold codF at H
  refine h_hasState h6 (fun q => ⟨fun _ => by rw [chz_f q] at H; exact H, fun q1 => absurd rfl q1⟩) (fun j hj e => ⟨fun q1 => absurd q1 (by decide), fun _ => nm_cs m4 m5 (fun w => ?_) (fun w => ?_)⟩)
  · rw [chz_t ⟨j, hj, e⟩, chz_f w] at H; exact H
  · rw [chz_t ⟨j, hj, e⟩, chz_t w] at H
    subst e
    exact g_codeOf hC (by omega) H
theorem r_code (hT : okE st co E) (hE : eqE st co en E) (hG : gnK st co E gN sg ss) (H : post (codF st co E gN sg x)) : wp_X10_code post (nI st) (nI co) en (nI gN) ss x := by
  have h6 := hT.1
  unfold codF at H
  refine s_in1 (n := st) (by omega) (fun q => ⟨fun _ => by rw [chz_f q] at H; exact H, fun q1 => absurd rfl q1⟩) (fun j hj e => ⟨fun q1 => absurd q1 (by decide), fun _ => r_isNormal hT hE (fun w => ⟨fun q => absurd q (by decide), fun _ => ?_⟩) (fun w => ⟨fun _ => ?_, fun q => absurd rfl q⟩)⟩)
  · rw [chz_t ⟨j, hj, e⟩, chz_t w] at H
    exact r_codeOf hG.1 hG.2.2 H
  · rw [chz_t ⟨j, hj, e⟩, chz_f w] at H; exact H
theorem g_coded (hT : okE st co E) (hE : eqE st co en E) (hM : maK st co E mo sb am nm) (hg : gN ≤ 5) (hC : cdOK sg cd gN) (H : post (cddF st co E gN sg x)) : wp_X9_coded post (LOS st co E gN sg) en (nI st) (nI co) nm cd (nI gN) x := by
  obtain ⟨m1, m2, m3, m4, m5⟩ := hM
  unfold cddF at H
  refine ⟨fun a => ?_, fun a => ⟨fun b => nm_cs m4 m5 (fun w => ?_) (fun w => ?_), fun b => ?_⟩⟩
  · rw [chz_t (Or.inl a)] at H; exact H
  · rw [chz_f (fun q => q.elim a (i32_le_nlt b)), chz_f w] at H; exact H
  · rw [chz_f (fun q => q.elim a (i32_le_nlt b)), chz_t w] at H
    refine ⟨fun q0 => ?_, fun q0 => ⟨fun q1 => ⟨fun z => ?_, fun z => ?_⟩, fun q1 => ⟨fun q2 => ?_, fun q2 => ⟨fun q3 => ?_, fun q3 => ⟨fun q4 => ?_, fun q4 => ?_⟩⟩⟩⟩⟩
    · rw [chz_t q0] at H; exact H
    · rw [chz_f q0, chz_t q1, chz_t z] at H; exact H
    · rw [chz_f q0, chz_t q1, chz_f z] at H; exact H
    · rw [chz_f q0, chz_f q1, chz_t q2] at H; exact H
    · rw [chz_f q0, chz_f q1, chz_f q2, chz_t q3] at H; exact g_countWild hT hE hC H
    · rw [chz_f q0, chz_f q1, chz_f q2, chz_f q3, chz_t q4] at H; exact g_firstWild hT hE hC (fun r hr => by rw [FWR_v hr]; exact H)
    · rw [chz_f q0, chz_f q1, chz_f q2, chz_f q3, chz_f q4] at H; exact g_mostChanges hT hE hg hC H
  · rw [chz_t (Or.inr (i32_nle_lt b))] at H; exact H
theorem r_lostK (hT : okE st co E) (hp : ptK st co E pz lo hi) (hG : gnK st co E gN sg ss) (H : post (LOS st co E gN sg)) : wp_X10_lost post (nI gN) ss pz lo hi := by
  have h63 := PN_63 hT
  rw [← los_eq hp] at H
  rw [hp.1]
  exact r_lost (by omega) hG.1 hG.2.2 H
theorem r_coded (hT : okE st co E) (hE : eqE st co en E) (hp : ptK st co E pz lo hi) (hG : gnK st co E gN sg ss) (H : post (cddF st co E gN sg x)) : wp_X10_coded post (nI st) (nI co) en (nI gN) ss pz lo hi x := by
  unfold cddF at H
  refine s_within (fun a => ⟨fun _ => ?_, fun q => absurd rfl q⟩) (fun a => ⟨fun _ => ?_, fun q => absurd rfl q⟩) (fun a b => ⟨fun q => absurd q (by decide), fun _ => r_isNormal hT hE (fun w => ⟨fun q => absurd q (by decide), fun _ => ?_⟩) (fun w => ⟨fun _ => ?_, fun q => absurd rfl q⟩)⟩)
  · rw [chz_t (Or.inl a)] at H; exact H
  · rw [chz_t (Or.inr a)] at H; exact H
  · rw [chz_f (fun q => q.elim a b), chz_t w] at H
    refine ⟨fun q0 => ?_, fun q0 => ⟨fun q1 => r_lostK hT hp hG ⟨fun z => ?_, fun z => ?_⟩, fun q1 => ⟨fun q2 => ?_, fun q2 => ⟨fun q3 => ?_, fun q3 => ⟨fun q4 => ?_, fun q4 => ?_⟩⟩⟩⟩⟩
    · rw [chz_t q0] at H; exact H
    · rw [chz_f q0, chz_t q1, chz_t z] at H; exact H
    · rw [chz_f q0, chz_t q1, chz_f z] at H; exact H
    · rw [chz_f q0, chz_f q1, chz_t q2] at H; exact r_lostK hT hp hG H
    · rw [chz_f q0, chz_f q1, chz_f q2, chz_t q3] at H; exact r_wildNow0 hT hE hG.1 hG.2.2 H
    · rw [chz_f q0, chz_f q1, chz_f q2, chz_f q3, chz_t q4] at H; exact r_wildNow1 hT hE hG.1 hG.2.2 (fun r hr => by rw [FWR_v hr]; exact H)
    · rw [chz_f q0, chz_f q1, chz_f q2, chz_f q3, chz_f q4] at H; exact r_mostChange hT hE hG.1 hG.2.2 H
  · rw [chz_f (fun q => q.elim a b), chz_f w] at H; exact H
theorem g_isGood {post : Int32 → Prop} (hM : maK st co E mo sb am nm) (H1 : GOD st co E gN sg → post 1) (H0 : ¬ GOD st co E gN sg → post 0) : wp_X9_isGood post (LOS st co E gN sg) nm := by
  obtain ⟨m1, m2, m3, m4, m5⟩ := hM
  exact nm_cs m4 m5 (fun w => H0 (fun q => w q.1)) (fun w => ⟨fun z => H1 ⟨w, z⟩, fun z => H0 (fun q => z q.2)⟩)
theorem r_isGood {post : Int32 → Prop} (hT : okE st co E) (hE : eqE st co en E) (hp : ptK st co E pz lo hi) (hG : gnK st co E gN sg ss) (H1 : GOD st co E gN sg → post 1) (H0 : ¬ GOD st co E gN sg → post 0) : wp_X10_isGood post (nI st) (nI co) en (nI gN) ss pz lo hi :=
  r_isNormal hT hE (fun w => ⟨fun q => absurd q (by decide), fun _ => r_lostK hT hp hG ⟨fun z => H1 ⟨w, z⟩, fun z => H0 (fun q => z q.2)⟩⟩) (fun w => ⟨fun _ => H0 (fun q => w q.1), fun q => absurd rfl q⟩)
theorem g_refusalOf {post : Int32 → Prop} (hM : maK st co E mo sb am nm) (hg : gN ≤ 5) (H0 : ¬ GOD st co E gN sg → post (-1003)) (H1 : GOD st co E gN sg → ¬ inr gN x → post (-1001)) (H2 : GOD st co E gN sg → ∀ j, j < gN → x = nI j → post 0) : wp_X9_refusalOf post (LOS st co E gN sg) nm (nI gN) x := by
  refine g_isGood hM (fun w => ⟨fun q => absurd q (by decide), fun _ => ⟨fun a => H1 w (inr_neg a (by omega)), fun a => ?_⟩⟩) (fun w => ⟨fun _ => H0 w, fun q => absurd rfl q⟩)
  obtain ⟨j, hj, e⟩ := nI_of a
  subst e
  exact pk_lt j gN (fun h => H2 w j h rfl) (fun h => H1 w (fun q => by obtain ⟨i, hi, e⟩ := q; have := nI_ij hj (by omega) e; omega))
theorem g_wanted (hM : maK st co E mo sb am nm) (hg : gN ≤ 5) (ha : aiK st co E gN sg ac bz) (H : post (wanF st co E gN sg x y)) : wp_X9_wanted post (LOS st co E gN sg) nm (nI gN) ac bz x y := by
  unfold wanF at H
  refine g_refusalOf hM hg (fun w => ⟨fun q => absurd q (by decide), fun _ => by rw [chz_f w] at H; exact H⟩) (fun w q => ⟨fun q => absurd q (by decide), fun _ => by rw [chz_t w, chz_f q] at H; exact H⟩) (fun w j hj e => ⟨fun _ => ?_, fun q => absurd rfl q⟩)
  rw [chz_t w, chz_t ⟨j, hj, e⟩] at H
  obtain ⟨e1, e2⟩ := ha.2 w
  have hq := p2_5 hg
  have e3 : 2 ^ (2 + gN) = 4 * 2 ^ gN := by rw [Nat.pow_add]
  refine ⟨fun a => ?_, fun a => ?_⟩
  · rw [chz_f (inr_neg a (by omega))] at H; exact H
  · obtain ⟨p, hp, e⟩ := nI_of a
    subst e
    unfold wp_X0_points
    rw [e1, sh1 (2 + gN) (by omega), e3]
    refine pk_lt p (4 * 2 ^ gN) (fun h => ?_) (fun h => ?_)
    · rw [chz_t ⟨p, h, rfl⟩, nI_clamp hp, ← e2 p (by omega)] at H
      exact g_at (by omega) H
    · rw [chz_f (fun q => by obtain ⟨i, hi, e⟩ := q; have := nI_ij hp (by omega) e; omega)] at H; exact H
theorem r_wanted (hT : okE st co E) (hE : eqE st co en E) (hp : ptK st co E pz lo hi) (hG : gnK st co E gN sg ss) (H : post (wanF st co E gN sg x y)) : wp_X10_wanted post (nI st) (nI co) en (nI gN) ss pz lo hi x y := by
  unfold wanF at H
  have hg := hG.1
  have hq := p2_5 hg
  refine r_isGood hT hE hp hG (fun w => ⟨fun q => absurd q (by decide), fun _ => ?_⟩) (fun w => ⟨fun _ => by rw [chz_f w] at H; exact H, fun q => absurd rfl q⟩)
  rw [chz_t w] at H
  refine s_in1 (n := gN) (by omega) (fun q => ⟨fun _ => ⟨fun _ => by rw [chz_f q] at H; exact H, fun q1 => absurd rfl q1⟩, fun q1 => absurd rfl q1⟩) (fun j hj e => ⟨fun q1 => absurd q1 (by decide), fun _ => ?_⟩)
  rw [chz_t ⟨j, hj, e⟩] at H
  unfold wp_X10_points
  rw [sh4 gN (by omega)]
  refine s_in1 (n := 4 * 2 ^ gN) (by omega) (fun q => ⟨fun _ => ⟨fun _ => by rw [chz_f q] at H; exact H, fun q1 => absurd rfl q1⟩, fun q1 => absurd rfl q1⟩) (fun p hpp e2 => ⟨fun q1 => absurd q1 (by decide), fun _ => ⟨fun q1 => absurd q1 (by decide), fun _ => ?_⟩⟩)
  rw [chz_t ⟨p, hpp, e2⟩] at H
  subst e2
  rw [nI_clamp (show p < 2 ^ 31 by omega)] at H
  exact r_wantedAt hT hE hg hG.2.2 (by omega) H
theorem g_count {pl : Nat} {wa tu ch tr : Int32} (H : post (cntF st co x pl wa tu ch tr)) : wp_X9_count post tr (nI pl) (nI st) (nI co) wa tu ch x := by
  unfold cntF at H
  refine ⟨fun q0 => ?_, fun q0 => ⟨fun q1 => ?_, fun q1 => ⟨fun q2 => ?_, fun q2 => ⟨fun q3 => ?_, fun q3 => ⟨fun q4 => ?_, fun q4 => ⟨fun q5 => ?_, fun q5 => ⟨fun q6 => ?_, fun q6 => ?_⟩⟩⟩⟩⟩⟩⟩
  · rw [chz_t q0] at H; exact H
  · rw [chz_f q0, chz_t q1] at H; exact H
  · rw [chz_f q0, chz_f q1, chz_t q2] at H; exact H
  · rw [chz_f q0, chz_f q1, chz_f q2, chz_t q3] at H; exact H
  · rw [chz_f q0, chz_f q1, chz_f q2, chz_f q3, chz_t q4] at H; exact H
  · rw [chz_f q0, chz_f q1, chz_f q2, chz_f q3, chz_f q4, chz_t q5] at H; exact H
  · rw [chz_f q0, chz_f q1, chz_f q2, chz_f q3, chz_f q4, chz_f q5, chz_t q6] at H; exact H
  · rw [chz_f q0, chz_f q1, chz_f q2, chz_f q3, chz_f q4, chz_f q5, chz_f q6] at H; exact H
theorem r_count {pl : Nat} {wa tu ch tr : Int32} (H : post (cntF st co x pl wa tu ch tr)) : wp_X10_count post (nI pl) (nI st) (nI co) wa tu ch tr x := by
  unfold cntF at H
  refine ⟨fun q0 => ?_, fun q0 => ⟨fun q1 => ?_, fun q1 => ⟨fun q2 => ?_, fun q2 => ⟨fun q3 => ?_, fun q3 => ⟨fun q4 => ?_, fun q4 => ⟨fun q5 => ?_, fun q5 => ⟨fun q6 => ?_, fun q6 => ?_⟩⟩⟩⟩⟩⟩⟩
  · rw [chz_t q0] at H; exact H
  · rw [chz_f q0, chz_t q1] at H; exact H
  · rw [chz_f q0, chz_f q1, chz_t q2] at H; exact H
  · rw [chz_f q0, chz_f q1, chz_f q2, chz_t q3] at H; exact H
  · rw [chz_f q0, chz_f q1, chz_f q2, chz_f q3, chz_t q4] at H; exact H
  · rw [chz_f q0, chz_f q1, chz_f q2, chz_f q3, chz_f q4, chz_t q5] at H; exact H
  · rw [chz_f q0, chz_f q1, chz_f q2, chz_f q3, chz_f q4, chz_f q5, chz_t q6] at H; exact H
  · rw [chz_f q0, chz_f q1, chz_f q2, chz_f q3, chz_f q4, chz_f q5, chz_f q6] at H; exact H
end TOLD
