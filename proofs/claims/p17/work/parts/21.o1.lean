/-! what stands between two calls: partings, least code, code, aims -/
theorem Cv_cg {lo hi lo2 hi2 : Nat → Int32} {N m pn : Nat} {v : Nat → Nat} (h : ∀ p, p < pn → lo p = lo2 p ∧ hi p = hi2 p) (hv : Cv (KR lo hi) N 0 m 0 (fun p => p < pn) v) : Cv (KR lo2 hi2) N 0 m 0 (fun p => p < pn) v := ⟨hv.1, hv.2.1, fun p hp => by
  obtain ⟨i, a, b, c⟩ := hv.2.2 p hp
  refine ⟨i, a, b, ?_⟩
  show kps (nI (2 * v i)) (lo2 p) (hi2 p)
  rw [← (h p hp).1, ← (h p hp).2]
  exact c⟩
theorem LCs_cg {lo hi lo2 hi2 : Nat → Int32} {N pn g : Nat} {t : Nat → Nat} (h : ∀ p, p < pn → lo p = lo2 p ∧ hi p = hi2 p) (hv : LCs (KR lo hi) N pn g t) : LCs (KR lo2 hi2) N pn g t := by
  have h2 : ∀ p, p < pn → lo2 p = lo p ∧ hi2 p = hi p := fun p hp => ⟨(h p hp).1.symm, (h p hp).2.symm⟩
  exact ⟨fun m a b c v q => hv.1 m a b c v (Cv_cg h2 q), hv.2.1, fun q => ⟨Cv_cg h (hv.2.2 q).1, fun w hw => (hv.2.2 q).2 w (Cv_cg h2 hw)⟩⟩
section DEFS
variable (st co : Nat) (E : Nat → Nat → Int32) (gN : Nat) (sg : Nat → Int32)
noncomputable def chz (P : Prop) (a b : Int32) : Int32 := @ite _ P (Classical.propDecidable P) a b
noncomputable def PN : Nat := @ite _ (NRM st co E) (Classical.propDecidable _) (PF st co E).1 0
def lcK (g : Nat) (t : Nat → Nat) : Prop := LCs (KR (PF st co E).2.1 (PF st co E).2.2) (2 ^ (st - 1)) (PF st co E).1 g t
noncomputable def LC : Nat × (Nat → Nat) := Classical.epsilon (fun p : Nat × (Nat → Nat) => lcK st co E p.1 p.2)
noncomputable def LG : Nat := @ite _ (NRM st co E) (Classical.propDecidable _) (LC st co E).1 0
noncomputable def lsg : Nat → Int32 := fun i => nI (2 * (LC st co E).2 i)
noncomputable def LOS : Int32 := loF sg gN (PF st co E).2.1 (PF st co E).2.2 (PN st co E)
def GOD : Prop := NRM st co E ∧ LOS st co E gN sg = 0
def ptK (pz : Int32) (lo hi : Nat → Int32) : Prop := pz = nI (PN st co E) ∧ ∀ p, p < PN st co E → lo p = (PF st co E).2.1 p ∧ hi p = (PF st co E).2.2 p
def lsK (ls : Nat → Int32) : Prop := LG st co E ≤ 5 ∧ ∀ i, i < LG st co E → ls i = lsg st co E i
def gnK (ss : Nat → Int32) : Prop := gN ≤ 5 ∧ (¬ NRM st co E → gN = 0) ∧ ∀ i, i < gN → ss i = sg i
def aiK (ac : Nat → Int32) (bz : Int32) : Prop := (∃ b, b ≤ 7 ∧ bz = nI b) ∧ (GOD st co E gN sg → bz = nI (2 + gN) ∧ ∀ p, p < 128 → ac p = AIM st co E (cdF sg gN) p)
def maK (mo sb am nm : Int32) : Prop := mo = MVS st co E ∧ sb = SBS st co E ∧ am = AMS st co E ∧ (NRM st co E → nm = 1) ∧ (¬ NRM st co E → nm = 0)
/-- the class -/
def cK (un mo sb am nm : Int32) (lo hi : Nat → Int32) (pz : Int32) (ls : Nat → Int32) (lz : Int32) (ss cd : Nat → Int32) (gz : Int32) (ac : Nat → Int32) (bz : Int32) : Prop := maK st co E mo sb am nm ∧ ptK st co E pz lo hi ∧ (lsK st co E ls ∧ lz = nI (LG st co E)) ∧ (gnK st co E gN sg ss ∧ gz = nI gN ∧ cdOK sg cd gN) ∧ un = LOS st co E gN sg ∧ aiK st co E gN sg ac bz
/-- the reference -/
def rK (pz : Int32) (lo hi : Nat → Int32) (lm : Int32) (la : Nat → Int32) (gz : Int32) (ss : Nat → Int32) : Prop := ptK st co E pz lo hi ∧ (lsK st co E la ∧ lm = lmI (LG st co E)) ∧ gnK st co E gN sg ss ∧ gz = nI gN
end DEFS
theorem chz_t {P : Prop} {a b : Int32} (h : P) : chz P a b = a := if_pos h
theorem chz_f {P : Prop} {a b : Int32} (h : ¬ P) : chz P a b = b := if_neg h
section FACTS
variable {st co : Nat} {E : Nat → Nat → Int32} {gN : Nat} {sg : Nat → Int32}
theorem PN_t (h : NRM st co E) : PN st co E = (PF st co E).1 := if_pos h
theorem PN_f (h : ¬ NRM st co E) : PN st co E = 0 := if_neg h
theorem LG_t (h : NRM st co E) : LG st co E = (LC st co E).1 := if_pos h
theorem LG_f (h : ¬ NRM st co E) : LG st co E = 0 := if_neg h
theorem PN_63 (hT : okE st co E) : PN st co E ≤ 63 := by
  by_cases h : NRM st co E
  · rw [PN_t h]; exact PF_63 hT h.2
  · rw [PN_f h]; omega
theorem LC_spec {g : Nat} {t : Nat → Nat} (h : lcK st co E g t) : g = (LC st co E).1 ∧ ∀ i, i < g → t i = (LC st co E).2 i := by
  have hs : lcK st co E (LC st co E).1 (LC st co E).2 := Classical.epsilon_spec (p := fun p : Nat × (Nat → Nat) => lcK st co E p.1 p.2) ⟨(g, t), h⟩
  exact LCs_eq h hs
theorem lcK_ls {g : Nat} {t : Nat → Nat} {ls : Nat → Int32} (hN : NRM st co E) (h : lcK st co E g t) (hl : ∀ i, i < g → ls i = nI (2 * t i)) : g = LG st co E ∧ lsK st co E ls := by
  obtain ⟨e1, e2⟩ := LC_spec h
  have e : g = LG st co E := by rw [LG_t hN]; exact e1
  refine ⟨e, by rw [← e]; exact h.2.1, fun i hi => ?_⟩
  rw [← e] at hi
  rw [hl i hi, e2 i hi]
  rfl
theorem lsK_f {ls : Nat → Int32} (hN : ¬ NRM st co E) : lsK st co E ls := ⟨by rw [LG_f hN]; omega, fun i hi => by rw [LG_f hN] at hi; exact absurd hi (by omega)⟩
theorem los_eq {pz : Int32} {lo hi : Nat → Int32} (hp : ptK st co E pz lo hi) : loF sg gN lo hi (PN st co E) = LOS st co E gN sg := loF_cg (fun p h => hp.2 p h)
end FACTS
theorem g_settle {post : Int32 → (Nat → Int32) → Int32 → (Nat → Int32) → Prop} {en lo hi ss cd ac rd sg : Nat → Int32} {st co gN : Nat} {E : Nat → Nat → Int32} {un nm pz bz : Int32} (hT : okE st co E) (hE : eqE st co en E) (h1 : NRM st co E → nm = 1) (h0 : ¬ NRM st co E → nm = 0) (hp : ptK st co E pz lo hi) (hG : gnK st co E gN sg ss) (hC : cdOK sg cd gN) (hb : ∃ b, b ≤ 7 ∧ bz = nI b)
    (H : ∀ ac' bz' rd', aiK st co E gN sg ac' bz' → (∀ k, k < 5 → rd' k = 0) → post (LOS st co E gN sg) ac' bz' rd') : wp_X9_settle post un en (nI st) (nI co) nm lo hi pz ss cd (nI gN) ac bz rd := by
  have h63 := PN_63 hT
  have hl := los_eq (gN := gN) (sg := sg) hp
  rw [hp.1]
  refine g_countUnkept (by omega) hG.1 hG.2.2 ?_
  rw [hl]
  refine ⟨6, ?_⟩
  have key : ∀ (KE : (Nat → Int32) → Prop), (∀ r, (∀ k, k < 5 → r k = 0) → KE r) → ∀ n i r, i ≤ 5 → 5 - i < n → (∀ k, k < i → r k = 0) → w_X9_settle_17 KE n (nI i) r := by
    intro KE hK n
    induction n with
    | zero => intro i r h1 h2; omega
    | succ n ih =>
      intro i r h1 h2 h3
      refine pk_le 5 i (fun hle => hK r (fun k hk => h3 k (by omega))) (fun hlt => ⟨pk_in i 5 (by omega), fun z hz => ?_⟩)
      rw [hz, nI_p1, nI_clamp (show i < 2 ^ 31 by omega)]
      refine ih (i + 1) _ (by omega) (by omega) (fun k hk => ?_)
      unfold va_up
      by_cases e : k = i
      · rw [if_pos e]
      · rw [if_neg e]; exact h3 k (by omega)
  refine key _ (fun r hr => ?_) 6 0 rd (by omega) (by omega) (fun k hk => absurd hk (by omega))
  have hno : ¬ GOD st co E gN sg → post (LOS st co E gN sg) ac bz r := fun q => H ac bz r ⟨hb, fun w => absurd w q⟩ hr
  refine ⟨fun q => ⟨fun _ => hno (fun w => ?_), fun q1 => absurd rfl q1⟩, fun q => ⟨fun q2 => ⟨fun q1 => absurd q1 (by decide), fun _ => ?_⟩, fun q2 => ⟨fun _ => hno (fun w => q2 w.2), fun q1 => absurd rfl q1⟩⟩⟩
  · rw [h1 w.1] at q
    exact absurd q (by decide)
  · refine g_chart hT hE hC (fun ac' ha => H ac' _ r ⟨⟨2 + gN, by have := hG.1; omega, rfl⟩, fun _ => ⟨rfl, ha⟩⟩ hr)
theorem g_read {post : (Nat → Int32) → Int32 → Int32 → Int32 → Int32 → Int32 → Int32 → Prop} {lt en : Nat → Int32} {v : Nat → Nat} {pl st co : Nat} {a b c d e f : Int32} (hl : pl ≤ 40) (hv : ∀ i, i < pl → lt i = nI (v i) ∧ v i < 128) (hT : okE st co (tE v co)) (h0 : 0 < st) (hp : st * (co + 1) = pl + 1) (H : ∀ en' nm, eqE st co en' (tE v co) → (NRM st co (tE v co) → nm = 1) → (¬ NRM st co (tE v co) → nm = 0) → post en' (nI st) (nI co) (MVS st co (tE v co)) (SBS st co (tE v co)) (AMS st co (tE v co)) nm) : wp_X2_read post lt (nI pl) (nI st) (nI co) en a b c d e f := by
  have hs := hT.1
  have hc := hT.2.1
  have ix : ∀ s k, s < st → k < co → s * (co + 1) + k < pl := by
    intro s k h1 h2
    have : (s + 1) * (co + 1) ≤ st * (co + 1) := Nat.mul_le_mul_right _ h1
    rw [Nat.succ_mul] at this
    omega
  have k1 : ∀ (KE : (Nat → Int32) → Prop) (s : Nat), s < st → (∀ a, (∀ r k, (r < s ∧ k < co) ∨ (r = s ∧ k < co) → a (4 * r + k) = tE v co r k) → KE a) → ∀ n i en, i ≤ co → co - i < n → (∀ r k, (r < s ∧ k < co) ∨ (r = s ∧ k < i) → en (4 * r + k) = tE v co r k) → w_X2_read_28 KE lt (nI pl) (nI co) (nI co) (nI s) n (nI i) en := by
    intro KE s hs2 hK n
    induction n with
    | zero => intro i en h1 h2; omega
    | succ n ih =>
      intro i en h1 h2 h3
      refine pk_le co i (fun hle => hK _ (fun r k hrk => h3 r k (by omega))) (fun hlt => h_stateAt hl hv (ix s i hs2 hlt) ?_)
      rw [nI4, nI_clamp (show 4 * s + i < 2 ^ 31 by omega)]
      refine ⟨pk_in (4 * s + i) 24 (by omega), fun a ha z hz => ?_⟩
      rw [hz, nI_p1 i, ha]
      refine ih (i + 1) _ (by omega) (by omega) (fun r k hrk => ?_)
      by_cases ei : 4 * r + k = 4 * s + i
      · have : r = s := by omega
        subst this
        have : k = i := by omega
        subst this
        rw [pk_us]
        rfl
      · rw [pk_un ei]
        exact h3 r k (by omega)
  have k2 : ∀ (KE : (Nat → Int32) → Prop), (∀ a, (∀ r k, r < st → k < co → a (4 * r + k) = tE v co r k) → KE a) → ∀ n i en, i ≤ st → st - i < n → (∀ r k, r < i → k < co → en (4 * r + k) = tE v co r k) → w_X2_read_18 KE lt (nI pl) (nI co) (nI st) (nI co) n (nI i) en := by
    intro KE hK n
    induction n with
    | zero => intro i en h1 h2; omega
    | succ n ih =>
      intro i en h1 h2 h3
      exact pk_le st i (fun _ => hK _ (fun r k hr hk => h3 r k (by omega) hk)) (fun hlt => ⟨5, k1 _ i hlt (fun a ha z hz => by rw [hz, nI_p1 i]; exact ih (i + 1) a (by omega) (by omega) (fun r k hr hk => ha r k (by omega))) 5 0 _ (by omega) (by omega) (fun r k hrk => h3 r k (by omega) (by omega))⟩)
  exact ⟨7, k2 _ (fun en' hen => g_inspect hT hen (fun q => H en' 1 hen (fun _ => rfl) (fun r => absurd ⟨h0, q⟩ r)) (fun q => H en' 0 hen (fun r => absurd r.2 q) (fun _ => rfl))) 7 0 _ (by omega) (by omega) (fun r k hr => absurd hr (by omega))⟩
theorem tE_ok {v : Nat → Nat} {pl a c : Nat} (ha : a ≤ 5) (hc : c ≤ 4) (hg : gmx v pl ≤ a + 1) (hp : (a + 1) * (c + 1) = pl + 1) : okE (a + 1) c (tE v c) := ⟨by omega, hc, fun s k h1 h2 => by
  refine stv_in (Nat.le_trans (lv1_gmx ?_) hg)
  have : (s + 1) * (c + 1) ≤ (a + 1) * (c + 1) := Nat.mul_le_mul_right _ h1
  rw [Nat.succ_mul] at this
  omega⟩
theorem gat_pt {st co : Nat} {E : Nat → Nat → Int32} {lo hi : Nat → Int32} (hN : NRM st co E) : ptK st co E (nI (gatF st co E (0, lo, hi)).1) (gatF st co E (0, lo, hi)).2.1 (gatF st co E (0, lo, hi)).2.2 := by
  obtain ⟨e1, e2⟩ := PF_eq st co E lo hi
  refine ⟨by rw [PN_t hN, e1], fun p hp => e2 p ?_⟩
  rw [PN_t hN] at hp
  omega
theorem g_table {post : Int32 → Int32 → Int32 → Int32 → Int32 → Int32 → Int32 → Int32 → (Nat → Int32) → Int32 → Int32 → Int32 → Int32 → Int32 → Int32 → (Nat → Int32) → (Nat → Int32) → Int32 → (Nat → Int32) → (Nat → Int64) → (Nat → Int64) → Int32 → Int32 → (Nat → Int32) → (Nat → Int32) → Int32 → (Nat → Int32) → Int32 → (Nat → Int32) → Int32 → Int32 → Int32 → Prop}
    {v : Nat → Nat} {lt en lo hi ls ss cd ac rd : Nat → Int32} {kp kf : Nat → Int64} {pl : Nat} {xs xc pz lz gz bz u tr fa ro ir wi mo sb am nm ca wa tu ch : Int32}
    (hl : pl ≤ 40) (hv : ∀ i, i < pl → lt i = nI (v i) ∧ v i < 128) (hb : ∃ b, b ≤ 7 ∧ bz = nI b)
    (H0 : ¬ tabOK v pl → ∀ fa' ro' ir' wi', post (-1003) u tr (nI pl) fa' ro' ir' wi' en xs xc mo sb am nm lo hi pz ls kp kf ca lz ss cd gz ac bz rd wa tu ch)
    (H1 : ∀ a c, FR v pl pl a c c → 0 < a → gmx v pl ≤ a + 1 → okE (a + 1) c (tE v c) → ∀ u' fa' ro' ir' wi' en' mo' sb' am' nm' lo' hi' pz' ls' kp' kf' ca' lz' ss' cd' gz' ac' bz' rd', eqE (a + 1) c en' (tE v c) → cK (a + 1) c (tE v c) (LG (a + 1) c (tE v c)) (lsg (a + 1) c (tE v c)) u' mo' sb' am' nm' lo' hi' pz' ls' lz' ss' cd' gz' ac' bz' → (∀ k, k < 5 → rd' k = 0) →
      post (nI (a + 1)) u' (tr + 1) (nI 0) fa' ro' ir' wi' en' (nI (a + 1)) (nI c) mo' sb' am' nm' lo' hi' pz' ls' kp' kf' ca' lz' ss' cd' gz' ac' bz' rd' (-1) 0 0) :
    wp_X9_table post u tr lt (nI pl) fa ro ir wi en xs xc mo sb am nm lo hi pz ls kp kf ca lz ss cd gz ac bz rd wa tu ch := by
  refine q_scan hl hv (fun f r e c hF hI hf => ?_)
  obtain ⟨i1, i2, i3, i4, i5⟩ := id hI
  refine q_isTable hl hv hF hI (fun ef ec h0 hgm ok => ⟨fun q => absurd q (by decide), fun _ => ?_⟩) (fun hn => ⟨fun _ => H0 hn _ _ _ _, fun q => absurd rfl q⟩)
  subst ef
  subst ec
  have hp1 : (r + 1) * (e + 1) = f + 1 := by rw [Nat.succ_mul]; omega
  have hT : okE (r + 1) e (tE v e) := tE_ok i1 i3 hgm hp1
  refine g_read (st := r + 1) (co := e) hl hv hT (by omega) hp1 (fun en' nm' hen hn1 hn0 f5 hf5 => ?_)
  have J : ∀ (lo' hi' ls' : Nat → Int32) (kp' kf' : Nat → Int64) (pz' : Int32) (ca' : Int32), ptK (r + 1) e (tE v e) pz' lo' hi' → lsK (r + 1) e (tE v e) ls' → j_X9_table_111 post u f5 (nI 0) (nI f) (nI (r + 1)) (nI e) (nI e) en' (nI (r + 1)) (nI e) (MVS (r + 1) e (tE v e)) (SBS (r + 1) e (tE v e)) (AMS (r + 1) e (tE v e)) nm' lo' hi' pz' ls' kp' kf' ca' (nI (LG (r + 1) e (tE v e))) ss cd gz ac bz rd (-1) 0 0 := fun lo' hi' ls' kp' kf' pz' ca' h1 h2 => by
    rw [hf5]
    refine g_take h2.1 h2.2 (fun ss' cd' hss hcd => ?_)
    have hG : gnK (r + 1) e (tE v e) (LG (r + 1) e (tE v e)) (lsg (r + 1) e (tE v e)) ss' := ⟨h2.1, fun q => LG_f q, hss⟩
    exact g_settle hT hen hn1 hn0 h1 hG hcd hb (fun ac' bz' rd' ha hr => H1 r e hF h0 hgm hT _ _ _ _ _ _ _ _ _ _ _ _ _ _ _ _ _ _ _ _ _ _ _ _ hen ⟨⟨rfl, rfl, rfl, hn1, hn0⟩, h1, ⟨h2, rfl⟩, ⟨hG, rfl, hcd⟩, rfl, ha⟩ hr)
  refine ⟨fun q => ?_, fun q => ?_⟩
  · have hN : ¬ NRM (r + 1) e (tE v e) := fun w => by
      rw [hn1 w] at q
      exact absurd q (by decide)
    have := J lo hi ls kp kf (nI 0) ca ⟨by rw [PN_f hN], fun p hp => by rw [PN_f hN] at hp; exact absurd hp (by omega)⟩ (lsK_f hN)
    rw [LG_f hN] at this
    exact this
  · have hN : NRM (r + 1) e (tE v e) := Classical.byContradiction (fun w => q (hn0 w))
    refine g_gather hT hen ?_
    have hpt := gat_pt (lo := lo) (hi := hi) hN
    have h63 := PF_63 hT hN.2
    have hpos := PF_pos (co := e) (E := tE v e) (show 2 ≤ r + 1 by omega)
    have hal := PF_al hT hN.2
    obtain ⟨e1, e2⟩ := PF_eq (r + 1) e (tE v e) lo hi
    revert hpt e1 e2
    generalize gatF (r + 1) e (tE v e) (0, lo, hi) = T
    intro hpt e1 e2
    refine g_find (by omega) (by omega) (by omega) (by omega) (fun p hp => ?_) (fun sg' kp' kf' ca' g t hL hsg => ?_)
    · have := hal p (by omega)
      rw [← (e2 p hp).1, ← (e2 p hp).2] at this
      exact keepable (by omega) (by omega) this
    · have hL : lcK (r + 1) e (tE v e) g t := by
        have := LCs_cg e2 hL
        unfold lcK
        rw [← e1]
        exact this
      obtain ⟨eg, hls⟩ := lcK_ls hN hL hsg
      rw [eg]
      exact J _ _ _ _ _ _ _ hpt hls
theorem r_table {post : Int32 → Int32 → Int32 → Int32 → (Nat → Int32) → Int32 → (Nat → Int32) → Int32 → Int32 → Int32 → Int32 → Int32 → Int32 → Int32 → Int32 → (Nat → Int32) → Int32 → (Nat → Int32) → (Nat → Int32) → Int32 → (Nat → Int32) → (Nat → Int32) → (Nat → Int64) → (Nat → Int64) → Int32 → Prop}
    {pg en ss na lo hi la tr : Nat → Int32} {kl kh : Nat → Int64} {v : Nat → Nat} {pl : Nat} {xs xc gz pz wa tu ch rd nr ne nc gr lm ld : Int32} (hl : pl ≤ 40) (hv : ∀ i, i < pl → pg i = nI (v i) ∧ v i < 128)
    (H0 : ¬ tabOK v pl → ∀ nr' ne' nc' gr' na', post (-1003) (nI pl) xs xc en gz ss wa tu ch rd nr' ne' nc' gr' na' pz lo hi lm la tr kl kh ld)
    (H1 : ∀ a c, FR v pl pl a c c → 0 < a → gmx v pl ≤ a + 1 → okE (a + 1) c (tE v c) → ∀ en' gz' ss' nr' ne' nc' gr' na' pz' lo' hi' lm' la' tr' kl' kh', eqE (a + 1) c en' (tE v c) → rK (a + 1) c (tE v c) (LG (a + 1) c (tE v c)) (lsg (a + 1) c (tE v c)) pz' lo' hi' lm' la' gz' ss' →
      post (nI (a + 1)) (nI 0) (nI (a + 1)) (nI c) en' gz' ss' (-1) 0 0 (rd + 1) nr' ne' nc' gr' na' pz' lo' hi' lm' la' tr' kl' kh' (-1)) : wp_X10_table post (nI pl) pg xs xc en gz ss wa tu ch rd nr ne nc gr na pz lo hi lm la tr kl kh ld := by
  refine s_readPage hl hv (fun f r e c na' hF hI hR hf => ?_)
  have gle := gmx_le v f
  have J0 : ¬ tabOK v pl → ∀ gr na', j_X10_table_45 post (nI pl) xs xc en gz ss wa tu ch rd (nI r) (nI e) (nI c) gr na' pz lo hi lm la tr kl kh ld 0 := fun hn gr na' => ⟨fun _ => H0 hn _ _ _ _ _, fun q => absurd rfl q⟩
  obtain ⟨i1, i2, i3, i4, i5⟩ := hI
  have hFl := hF.1
  refine pk_eq f pl (fun e1 => pk_le r 0 (fun h => J0 ?_ _ _) (fun h0 => pk_eq e c (fun ec => ?_) (fun h => J0 ?_ _ _))) (fun h => J0 ?_ _ _)
  · rintro ⟨r', c', hF', h2, h3⟩
    have := FR_eq hF hF'
    omega
  · subst e1
    subst ec
    rw [nlt_gI (by omega) (by omega)]
    refine ⟨fun h => J0 ?_ _ _, fun h => ?_⟩
    · rintro ⟨r', c', hF', h2, h3⟩
      have := FR_eq hF hF'
      omega
    refine ⟨fun q => absurd q (by decide), fun _ s hs => ?_⟩
    rw [hs, nI_p1]
    have k1 : ∀ n i en', i ≤ 4 * (r + 1) → 4 * (r + 1) - i < n → (∀ k, k < i → en' k = na' k) → ∀ KE : (Nat → Int32) → Prop, (∀ en', (∀ k, k < 4 * (r + 1) → en' k = na' k) → KE en') → w_X10_table_74 KE (nI (r + 1)) na' n (nI i) en' := by
      intro n
      induction n with
      | zero => intro i en' h1 h2; omega
      | succ n ih =>
        intro i en' h1 h2 h3 KE hK
        refine pk_le (4 * (r + 1)) i (fun hle => hK en' (fun k hk => h3 k (by omega))) (fun hlt => ⟨pk_in i 24 (by omega), pk_in i 24 (by omega), fun a ha z hz => ?_⟩) (by rw [show (4 : Int32) = nI 4 from rfl, pk_mul]) rfl
        rw [nI_clamp (show i < 2 ^ 31 by omega)] at ha
        rw [hz, nI_p1 i]
        refine ih (i + 1) a (by omega) (by omega) (fun k hk => ?_) KE hK
        by_cases ek : k = i
        · rw [ha, ek, pk_us]
        · rw [ha, pk_un ek]; exact h3 k (by omega)
    refine ⟨26, k1 26 0 en (by omega) (by omega) (fun k hk => absurd hk (by omega)) _ (fun en' hen f2 hf2 => ?_)⟩
    have hT : okE (r + 1) e (tE v e) := by
      have hT' : tabM (r + 1) e en' := rd_tab i1 i3 hR (by rw [← hf]; omega) hen
      exact ⟨hT'.1, hT'.2.1, fun s k h1 h2 => by
        have := hT'.2.2 s k h1 h2
        rw [hen _ (by omega), hR s k (by omega)] at this
        exact this⟩
    have hen2 : eqE (r + 1) e en' (tE v e) := fun s k h1 h2 => by rw [hen _ (by omega)]; exact hR s k (by omega)
    have fin : ∀ (pz' : Int32) (lo' hi' la' tr' : Nat → Int32) (kl' kh' : Nat → Int64), ptK (r + 1) e (tE v e) pz' lo' hi' → lsK (r + 1) e (tE v e) la' → ∀ m, m = lmI (LG (r + 1) e (tE v e)) → (∃ fu : Nat, w_X10_table_147 (fun (ysignalAt_17 : Nat → Int32) => ((0 ≤ m → (wp_X10_altered (fun (ylaid_19 : Int32) => post (nI (r + 1)) (0 : Int32) (nI (r + 1)) (nI e) en' m ysignalAt_17 ((-1) : Int32) (0 : Int32) (0 : Int32) f2 (nI r) (nI e) (nI e) (gI (gmx v f)) na' pz' lo' hi' m la' tr' kl' kh' ylaid_19) ld)) ∧ (¬ 0 ≤ m → (wp_X10_altered (fun (ylaid_20 : Int32) => post (nI (r + 1)) (0 : Int32) (nI (r + 1)) (nI e) en' (0 : Int32) ysignalAt_17 ((-1) : Int32) (0 : Int32) (0 : Int32) f2 (nI r) (nI e) (nI e) (gI (gmx v f)) na' pz' lo' hi' m la' tr' kl' kh' ylaid_20) ld)))) m la' fu (0 : Int32) ss) := by
      intro pz' lo' hi' la' tr' kl' kh' hpt hls m hm
      have hg5 := hls.1
      have last : ∀ ss', (∀ i, i < LG (r + 1) e (tE v e) → ss' i = lsg (r + 1) e (tE v e) i) → post (nI (r + 1)) (0 : Int32) (nI (r + 1)) (nI e) en' (nI (LG (r + 1) e (tE v e))) ss' ((-1) : Int32) (0 : Int32) (0 : Int32) f2 (nI r) (nI e) (nI e) (gI (gmx v f)) na' pz' lo' hi' m la' tr' kl' kh' (-1) := fun ss' hss => by
        rw [hf2]
        exact H1 r e hF h0 (by omega) hT _ _ _ _ _ _ _ _ _ _ _ _ _ _ _ _ hen2 ⟨hpt, ⟨hls, hm⟩, ⟨hg5, fun q => LG_f q, hss⟩, rfl⟩
      by_cases q : LG (r + 1) e (tE v e) = 0
      · rw [q] at hm last
        have hm : m = -1 := hm
        rw [hm] at last ⊢
        exact ⟨1, ⟨fun _ => ⟨fun q2 => absurd q2 (by decide), fun _ => last ss (fun i hi => absurd hi (by omega))⟩, fun q2 => absurd (by decide) q2⟩⟩
      · revert hg5 last
        have hlsv := hls.2
        revert hlsv
        have hm : m = nI (LG (r + 1) e (tE v e)) := by rw [hm]; exact if_neg q
        rw [hm]
        generalize LG (r + 1) e (tE v e) = k
        intro hlsv hg5 last
        have k2 : ∀ n i ss', i ≤ k → k - i < n → (∀ j, j < i → ss' j = lsg (r + 1) e (tE v e) j) → w_X10_table_147 (fun (ysignalAt_17 : Nat → Int32) => ((0 ≤ nI k → (wp_X10_altered (fun (ylaid_19 : Int32) => post (nI (r + 1)) (0 : Int32) (nI (r + 1)) (nI e) en' (nI k) ysignalAt_17 ((-1) : Int32) (0 : Int32) (0 : Int32) f2 (nI r) (nI e) (nI e) (gI (gmx v f)) na' pz' lo' hi' (nI k) la' tr' kl' kh' ylaid_19) ld)) ∧ (¬ 0 ≤ nI k → (wp_X10_altered (fun (ylaid_20 : Int32) => post (nI (r + 1)) (0 : Int32) (nI (r + 1)) (nI e) en' (0 : Int32) ysignalAt_17 ((-1) : Int32) (0 : Int32) (0 : Int32) f2 (nI r) (nI e) (nI e) (gI (gmx v f)) na' pz' lo' hi' (nI k) la' tr' kl' kh' ylaid_20) ld)))) (nI k) la' n (nI i) ss' := by
          intro n
          induction n with
          | zero => intro i ss' h1 h2; omega
          | succ n ih =>
            intro i ss' h1 h2 h3
            refine pk_le k i (fun hle => ⟨fun _ => last ss' (fun j hj => h3 j (by omega)), fun q2 => absurd (nI_pos' (by omega)) q2⟩) (fun hlt => ⟨pk_in i 5 (by omega), pk_in i 5 (by omega), fun a ha z hz => ?_⟩)
            rw [nI_clamp (show i < 2 ^ 31 by omega)] at ha
            rw [hz, nI_p1 i]
            refine ih (i + 1) a (by omega) (by omega) (fun j hj => ?_)
            by_cases ej : j = i
            · rw [ha, ej, pk_us]; exact hlsv i hlt
            · rw [ha, pk_un ej]; exact h3 j (by omega)
        exact ⟨k + 1, k2 (k + 1) 0 ss (by omega) (by omega) (fun j hj => absurd hj (by omega))⟩
    refine r_layPartings hT hen2 (fun hN => ?_) (fun hN => ?_)
    · refine r_layLeast (pn := 0) hT hen2 (fun q => absurd q hN) (fun _ => ?_) (fun q => absurd q hN)
      exact fin _ _ _ _ _ _ _ ⟨by rw [PN_f hN]; rfl, fun p hp => by rw [PN_f hN] at hp; exact absurd hp (by omega)⟩ (lsK_f hN) _ (by rw [LG_f hN]; rfl)
    · have hpt := gat_pt (lo := lo) (hi := hi) hN
      have h63 := PF_63 hT hN.2
      obtain ⟨e1, e2⟩ := PF_eq (r + 1) e (tE v e) lo hi
      revert hpt e1 e2
      generalize gatF (r + 1) e (tE v e) (0, lo, hi) = T
      intro hpt e1 e2
      refine r_layLeast hT hen2 (fun _ => by omega) (fun q => absurd hN q) (fun _ g t la' tr' kl' kh' hL hla => ?_)
      have hL : lcK (r + 1) e (tE v e) g t := by
        have := LCs_cg e2 hL
        unfold lcK
        rw [← e1]
        exact this
      obtain ⟨eg, hls⟩ := lcK_ls hN hL hla
      exact fin _ _ _ _ _ _ _ hpt hls _ (by rw [eg])
  · rintro ⟨r', c', hF', h2, h3⟩
    have := FR_eq hF hF'
    omega
  · rintro ⟨r', c', hF', h2, h3⟩
    have := FR_eq hF hF'
    omega
