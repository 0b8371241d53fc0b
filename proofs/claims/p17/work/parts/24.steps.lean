/-- what both sides know: letters, their number, states, columns, entries, where the walk is, tables read, turns, changes, signals -/
abbrev AS : Type := (Nat → Nat) × Nat × Nat × Nat × (Nat → Nat → Int32) × Int32 × Int32 × Int32 × Int32 × Nat × (Nat → Int32)
/-- the page -/
def jP (v : Nat → Nat) (pl : Nat) (sz : Int32) (lt : Nat → Int32) : Prop := pl ≤ 40 ∧ sz = nI pl ∧ ∀ i, i < pl → lt i = nI (v i) ∧ v i < 128
/-- the table and the walk -/
def zT (st co : Nat) (E : Nat → Nat → Int32) (wa tr tu ch : Int32) (xs xc : Int32) (en : Nat → Int32) (xw xr xt xh : Int32) : Prop := xs = nI st ∧ xc = nI co ∧ xw = wa ∧ xr = tr ∧ xt = tu ∧ xh = ch ∧ eqE st co en E ∧ okE st co E ∧ wkM st wa
/-- the class -/
def jC (v : Nat → Nat) (pl st co : Nat) (E : Nat → Nat → Int32) (wa tr tu ch : Int32) (gN : Nat) (sg : Nat → Int32) (lt : Nat → Int32) (sz : Int32) (en : Nat → Int32) (xs xc xw xr xt xh un mo sb am nm : Int32) (lo hi : Nat → Int32) (pz : Int32) (ls : Nat → Int32) (lz : Int32) (ss cd : Nat → Int32) (gz : Int32) (ac : Nat → Int32) (bz : Int32) (it : Nat → Int32) (as on sm : Nat → Nat → Int32) (wd sz2 fl rd : Nat → Int32) : Prop := jP v pl sz lt ∧ zT st co E wa tr tu ch xs xc en xw xr xt xh ∧ cK st co E gN sg un mo sb am nm lo hi pz ls lz ss cd gz ac bz ∧ (∀ k, k < 128 → it k = nI (t3 k)) ∧ loQ st co E gN sg as on sm wd sz2 fl rd
/-- the reference -/
def jM (v : Nat → Nat) (pl st co : Nat) (E : Nat → Nat → Int32) (wa tr tu ch : Int32) (gN : Nat) (sg : Nat → Int32) (sz : Int32) (pg : Nat → Int32) (xs xc : Int32) (en : Nat → Int32) (gz : Int32) (ss : Nat → Int32) (xw xr xt xh pz : Int32) (lo hi : Nat → Int32) (lm : Int32) (la : Nat → Int32) (ld : Int32) (wv : Nat → Int32) (wd : Int32) (wA wO : Nat → Int32) (sm fl : Int32) (sa : Nat → Int32) : Prop := jP v pl sz pg ∧ zT st co E wa tr tu ch xs xc en xw xr xt xh ∧ rK st co E gN sg pz lo hi lm la gz ss ∧ reQ st co E gN sg ld wv wd wA wO sm fl sa
def jCz (z : AS) := jC z.1 z.2.1 z.2.2.1 z.2.2.2.1 z.2.2.2.2.1 z.2.2.2.2.2.1 z.2.2.2.2.2.2.1 z.2.2.2.2.2.2.2.1 z.2.2.2.2.2.2.2.2.1 z.2.2.2.2.2.2.2.2.2.1 z.2.2.2.2.2.2.2.2.2.2
def jMz (z : AS) := jM z.1 z.2.1 z.2.2.1 z.2.2.2.1 z.2.2.2.2.1 z.2.2.2.2.2.1 z.2.2.2.2.2.2.1 z.2.2.2.2.2.2.2.1 z.2.2.2.2.2.2.2.2.1 z.2.2.2.2.2.2.2.2.2.1 z.2.2.2.2.2.2.2.2.2.2
theorem jP.sub {v : Nat → Nat} {pl pl1 : Nat} {lt : Nat → Int32} {x : Int32} (h : jP v pl x lt) (h1 : pl1 ≤ pl) : jP v pl1 (nI pl1) lt := ⟨Nat.le_trans h1 h.1, rfl, fun i hi => h.2.2 i (by omega)⟩
theorem jP.push {v : Nat → Nat} {pl w : Nat} {lt : Nat → Int32} {x y : Int32} (h : jP v pl y lt) (h0 : pl < 40) (hw : w ≤ 126) (e : x = nI w) : jP (fun i => if i = pl then w else v i) (pl + 1) (nI (pl + 1)) (upd lt pl x) := ⟨by omega, rfl, fun i hi => by
  by_cases ei : i = pl
  · subst ei
    rw [pk_us]
    dsimp only
    rw [if_pos rfl, e]
    exact ⟨rfl, by omega⟩
  · rw [pk_un ei]
    dsimp only
    rw [if_neg ei]
    exact h.2.2 i (by omega)⟩
theorem reQ_m {st co : Nat} {E : Nat → Nat → Int32} {gN : Nat} {sg wv wA wO sa : Nat → Int32} {wd sm fl : Int32} (hg : gN ≤ 5) : reQ st co E gN sg (-1) wv wd wA wO sm fl sa := fun _ k hk e => absurd e.symm (m1_ne (by omega))
section RELS
variable {v : Nat → Nat} {pl st co : Nat} {E : Nat → Nat → Int32} {wa tr tu ch x y r r1 r2 : Int32} {gN : Nat} {sg : Nat → Int32} {z1 z2 : AS}
def LETR (v : Nat → Nat) (pl st co : Nat) (E : Nat → Nat → Int32) (wa tr tu ch : Int32) (gN : Nat) (sg : Nat → Int32) (x r : Int32) (z1 : AS) : Prop := (¬ inL x → r = -1002 ∧ z1 = (v, pl, st, co, E, wa, tr, tu, ch, gN, sg)) ∧ (inL x → ¬ pl < 40 → r = -1004 ∧ z1 = (v, pl, st, co, E, wa, tr, tu, ch, gN, sg)) ∧ ∀ w, pl < 40 → 32 ≤ w → w ≤ 126 → x = nI w → r = nI (pl + 1) ∧ z1 = ((fun i => if i = pl then w else v i), pl + 1, st, co, E, wa, tr, tu, ch, gN, sg)
theorem LETR_a (h : ¬ inL x) : LETR v pl st co E wa tr tu ch gN sg x (-1002) (v, pl, st, co, E, wa, tr, tu, ch, gN, sg) := ⟨fun _ => ⟨rfl, rfl⟩, fun q => absurd q h, fun w _ h1 h2 e => absurd ⟨w, h1, h2, e⟩ h⟩
theorem LETR_b (h : inL x) (hn : ¬ pl < 40) : LETR v pl st co E wa tr tu ch gN sg x (-1004) (v, pl, st, co, E, wa, tr, tu, ch, gN, sg) := ⟨fun q => absurd h q, fun _ _ => ⟨rfl, rfl⟩, fun w q => absurd q hn⟩
theorem LETR_c {w : Nat} (h0 : pl < 40) (h1 : 32 ≤ w) (h2 : w ≤ 126) (e : x = nI w) : LETR v pl st co E wa tr tu ch gN sg x (nI (pl + 1)) ((fun i => if i = pl then w else v i), pl + 1, st, co, E, wa, tr, tu, ch, gN, sg) := ⟨fun q => absurd ⟨w, h1, h2, e⟩ q, fun _ q => absurd h0 q, fun w' _ h3 h4 e' => by
  have : w' = w := nI_ij (by omega) (by omega) (e'.symm.trans e)
  subst this
  exact ⟨rfl, rfl⟩⟩
theorem LETR_eq (h1 : LETR v pl st co E wa tr tu ch gN sg x r1 z1) (h2 : LETR v pl st co E wa tr tu ch gN sg x r2 z2) : r1 = r2 ∧ z1 = z2 := by
  by_cases a : inL x
  · by_cases b : pl < 40
    · obtain ⟨w, w1, w2, e⟩ := a
      exact ⟨(h1.2.2 w b w1 w2 e).1.trans (h2.2.2 w b w1 w2 e).1.symm, (h1.2.2 w b w1 w2 e).2.trans (h2.2.2 w b w1 w2 e).2.symm⟩
    · exact ⟨(h1.2.1 a b).1.trans (h2.2.1 a b).1.symm, (h1.2.1 a b).2.trans (h2.2.1 a b).2.symm⟩
  · exact ⟨(h1.1 a).1.trans (h2.1 a).1.symm, (h1.1 a).2.trans (h2.1 a).2.symm⟩
def TABR (v : Nat → Nat) (pl st co : Nat) (E : Nat → Nat → Int32) (wa tr tu ch : Int32) (gN : Nat) (sg : Nat → Int32) (r : Int32) (z1 : AS) : Prop := (∀ a c, FR v pl pl a c c → 0 < a → gmx v pl ≤ a + 1 → r = nI (a + 1) ∧ z1 = (v, 0, a + 1, c, tE v c, -1, tr + 1, 0, 0, LG (a + 1) c (tE v c), lsg (a + 1) c (tE v c))) ∧ (¬ tabOK v pl → r = -1003 ∧ z1 = (v, pl, st, co, E, wa, tr, tu, ch, gN, sg))
theorem TABR_a (h : ¬ tabOK v pl) : TABR v pl st co E wa tr tu ch gN sg (-1003) (v, pl, st, co, E, wa, tr, tu, ch, gN, sg) := ⟨fun a c h1 h2 h3 => absurd ⟨a, c, h1, h2, h3⟩ h, fun _ => ⟨rfl, rfl⟩⟩
theorem TABR_b {a c : Nat} (h : FR v pl pl a c c) (h0 : 0 < a) (hg : gmx v pl ≤ a + 1) : TABR v pl st co E wa tr tu ch gN sg (nI (a + 1)) (v, 0, a + 1, c, tE v c, -1, tr + 1, 0, 0, LG (a + 1) c (tE v c), lsg (a + 1) c (tE v c)) := ⟨fun a' c' h1 h2 h3 => by
  obtain ⟨_, e1, _, e2⟩ := FR_eq h1 h
  subst e1
  subst e2
  exact ⟨rfl, rfl⟩, fun q => absurd ⟨a, c, h, h0, hg⟩ q⟩
theorem TABR_eq (h1 : TABR v pl st co E wa tr tu ch gN sg r1 z1) (h2 : TABR v pl st co E wa tr tu ch gN sg r2 z2) : r1 = r2 ∧ z1 = z2 := by
  by_cases h : tabOK v pl
  · obtain ⟨a, c, hF, h0, hg⟩ := h
    exact ⟨(h1.1 a c hF h0 hg).1.trans (h2.1 a c hF h0 hg).1.symm, (h1.1 a c hF h0 hg).2.trans (h2.1 a c hF h0 hg).2.symm⟩
  · exact ⟨(h1.2 h).1.trans (h2.2 h).1.symm, (h1.2 h).2.trans (h2.2 h).2.symm⟩
def ENTR (st co : Nat) (E : Nat → Nat → Int32) (x y r : Int32) : Prop := (¬ (inr st x ∧ inr co y) → r = -1001) ∧ ∀ j k, j < st → k < co → x = nI j → y = nI k → r = E j k
theorem ENTR_a (h : ¬ (inr st x ∧ inr co y)) : ENTR st co E x y (-1001) := ⟨fun _ => rfl, fun j k h1 h2 e1 e2 => absurd ⟨⟨j, h1, e1⟩, ⟨k, h2, e2⟩⟩ h⟩
theorem ENTR_b {j k : Nat} (h6 : st ≤ 6) (h4 : co ≤ 4) (h1 : j < st) (h2 : k < co) (e1 : x = nI j) (e2 : y = nI k) : ENTR st co E x y (E j k) := ⟨fun q => absurd ⟨⟨j, h1, e1⟩, ⟨k, h2, e2⟩⟩ q, fun j' k' h3 h4 e3 e4 => by
  have a : j' = j := nI_ij (by omega) (by omega) (e3.symm.trans e1)
  have b : k' = k := nI_ij (by omega) (by omega) (e4.symm.trans e2)
  rw [a, b]⟩
theorem ENTR_eq (h1 : ENTR st co E x y r1) (h2 : ENTR st co E x y r2) : r1 = r2 := by
  by_cases h : inr st x ∧ inr co y
  · obtain ⟨⟨j, a1, a2⟩, ⟨k, b1, b2⟩⟩ := h
    exact (h1.2 j k a1 b1 a2 b2).trans (h2.2 j k a1 b1 a2 b2).symm
  · exact (h1.1 h).trans (h2.1 h).symm
def WALR (v : Nat → Nat) (pl st co : Nat) (E : Nat → Nat → Int32) (wa tr tu ch : Int32) (gN : Nat) (sg : Nat → Int32) (x r : Int32) (z1 : AS) : Prop := (¬ inr st x → r = -1001 ∧ z1 = (v, pl, st, co, E, wa, tr, tu, ch, gN, sg)) ∧ (inr st x → r = wa ∧ z1 = (v, pl, st, co, E, x, tr, 0, 0, gN, sg))
theorem WALR_a (h : ¬ inr st x) : WALR v pl st co E wa tr tu ch gN sg x (-1001) (v, pl, st, co, E, wa, tr, tu, ch, gN, sg) := ⟨fun _ => ⟨rfl, rfl⟩, fun q => absurd q h⟩
theorem WALR_b (h : inr st x) : WALR v pl st co E wa tr tu ch gN sg x wa (v, pl, st, co, E, x, tr, 0, 0, gN, sg) := ⟨fun q => absurd h q, fun _ => ⟨rfl, rfl⟩⟩
theorem WALR_eq (h1 : WALR v pl st co E wa tr tu ch gN sg x r1 z1) (h2 : WALR v pl st co E wa tr tu ch gN sg x r2 z2) : r1 = r2 ∧ z1 = z2 := by
  by_cases h : inr st x
  · exact ⟨(h1.2 h).1.trans (h2.2 h).1.symm, (h1.2 h).2.trans (h2.2 h).2.symm⟩
  · exact ⟨(h1.1 h).1.trans (h2.1 h).1.symm, (h1.1 h).2.trans (h2.1 h).2.symm⟩
def TURR (v : Nat → Nat) (pl st co : Nat) (E : Nat → Nat → Int32) (wa tr tu ch : Int32) (gN : Nat) (sg : Nat → Int32) (x r : Int32) (z1 : AS) : Prop := (¬ inr co x → r = -1001 ∧ z1 = (v, pl, st, co, E, wa, tr, tu, ch, gN, sg)) ∧ (inr co x → wa = -1 → r = -1003 ∧ z1 = (v, pl, st, co, E, wa, tr, tu, ch, gN, sg)) ∧ ∀ j k, j < st → k < co → wa = nI j → x = nI k → (E j k = -1 → r = -1003 ∧ z1 = (v, pl, st, co, E, wa, tr, tu, ch, gN, sg)) ∧ (E j k ≠ -1 → r = E j k ∧ z1 = (v, pl, st, co, E, E j k, tr, tu + 1, ch + pcI (cdF sg gN (nI j) ^^^ cdF sg gN (E j k)), gN, sg))
theorem TURR_a (h : ¬ inr co x) : TURR v pl st co E wa tr tu ch gN sg x (-1001) (v, pl, st, co, E, wa, tr, tu, ch, gN, sg) := ⟨fun _ => ⟨rfl, rfl⟩, fun q => absurd q h, fun j k _ hk _ e => absurd ⟨k, hk, e⟩ h⟩
theorem TURR_b (h6 : st ≤ 6) (h : inr co x) (e : wa = -1) : TURR v pl st co E wa tr tu ch gN sg x (-1003) (v, pl, st, co, E, wa, tr, tu, ch, gN, sg) := ⟨fun q => absurd h q, fun _ _ => ⟨rfl, rfl⟩, fun j k hj hk e1 _ => absurd (e1.symm.trans e) (m1_ne (by omega))⟩
theorem TURR_c {j k : Nat} (h6 : st ≤ 6) (h4 : co ≤ 4) (hj : j < st) (hk : k < co) (e1 : wa = nI j) (e2 : x = nI k) (h : E j k = -1) : TURR v pl st co E wa tr tu ch gN sg x (-1003) (v, pl, st, co, E, wa, tr, tu, ch, gN, sg) := ⟨fun q => absurd ⟨k, hk, e2⟩ q, fun _ _ => ⟨rfl, rfl⟩, fun j' k' hj' hk' e3 e4 => by
  have a : j' = j := nI_ij (by omega) (by omega) (e3.symm.trans e1)
  have b : k' = k := nI_ij (by omega) (by omega) (e4.symm.trans e2)
  subst a
  subst b
  exact ⟨fun _ => ⟨rfl, rfl⟩, fun q => absurd h q⟩⟩
theorem TURR_d {j k : Nat} (h6 : st ≤ 6) (h4 : co ≤ 4) (hj : j < st) (hk : k < co) (e1 : wa = nI j) (e2 : x = nI k) (h : E j k ≠ -1) : TURR v pl st co E wa tr tu ch gN sg x (E j k) (v, pl, st, co, E, E j k, tr, tu + 1, ch + pcI (cdF sg gN (nI j) ^^^ cdF sg gN (E j k)), gN, sg) := ⟨fun q => absurd ⟨k, hk, e2⟩ q, fun _ q => absurd (e1.symm.trans q) (m1_ne (by omega)), fun j' k' hj' hk' e3 e4 => by
  have a : j' = j := nI_ij (by omega) (by omega) (e3.symm.trans e1)
  have b : k' = k := nI_ij (by omega) (by omega) (e4.symm.trans e2)
  subst a
  subst b
  exact ⟨fun q => absurd q h, fun _ => ⟨rfl, rfl⟩⟩⟩
theorem TURR_eq (hw : wkM st wa) (h1 : TURR v pl st co E wa tr tu ch gN sg x r1 z1) (h2 : TURR v pl st co E wa tr tu ch gN sg x r2 z2) : r1 = r2 ∧ z1 = z2 := by
  by_cases h : inr co x
  · rcases hw with hw | ⟨j, hj, e⟩
    · exact ⟨(h1.2.1 h hw).1.trans (h2.2.1 h hw).1.symm, (h1.2.1 h hw).2.trans (h2.2.1 h hw).2.symm⟩
    · obtain ⟨k, hk, e2⟩ := h
      have a := h1.2.2 j k hj hk e e2
      have b := h2.2.2 j k hj hk e e2
      by_cases q : E j k = -1
      · exact ⟨(a.1 q).1.trans (b.1 q).1.symm, (a.1 q).2.trans (b.1 q).2.symm⟩
      · exact ⟨(a.2 q).1.trans (b.2 q).1.symm, (a.2 q).2.trans (b.2 q).2.symm⟩
  · exact ⟨(h1.1 h).1.trans (h2.1 h).1.symm, (h1.1 h).2.trans (h2.1 h).2.symm⟩
def PUTR (v : Nat → Nat) (pl st co : Nat) (E : Nat → Nat → Int32) (wa tr tu ch : Int32) (gN : Nat) (sg : Nat → Int32) (x r : Int32) (z1 : AS) : Prop := (¬ NRM st co E → r = -1003 ∧ z1 = (v, pl, st, co, E, wa, tr, tu, ch, gN, sg)) ∧ (NRM st co E → ¬ inr (2 ^ st) x → r = -1002 ∧ z1 = (v, pl, st, co, E, wa, tr, tu, ch, gN, sg)) ∧ (NRM st co E → inr (2 ^ st) x → ¬ gN < 5 → r = -1004 ∧ z1 = (v, pl, st, co, E, wa, tr, tu, ch, gN, sg)) ∧ (NRM st co E → inr (2 ^ st) x → gN < 5 → r = nI (gN + 1) ∧ z1 = (v, pl, st, co, E, wa, tr, tu, ch, gN + 1, psh sg gN x))
theorem PUTR_a (h : ¬ NRM st co E) : PUTR v pl st co E wa tr tu ch gN sg x (-1003) (v, pl, st, co, E, wa, tr, tu, ch, gN, sg) := ⟨fun _ => ⟨rfl, rfl⟩, fun q => absurd q h, fun q => absurd q h, fun q => absurd q h⟩
theorem PUTR_b (h : NRM st co E) (hx : ¬ inr (2 ^ st) x) : PUTR v pl st co E wa tr tu ch gN sg x (-1002) (v, pl, st, co, E, wa, tr, tu, ch, gN, sg) := ⟨fun q => absurd h q, fun _ _ => ⟨rfl, rfl⟩, fun _ q => absurd q hx, fun _ q => absurd q hx⟩
theorem PUTR_c (h : NRM st co E) (hx : inr (2 ^ st) x) (hg : ¬ gN < 5) : PUTR v pl st co E wa tr tu ch gN sg x (-1004) (v, pl, st, co, E, wa, tr, tu, ch, gN, sg) := ⟨fun q => absurd h q, fun _ q => absurd hx q, fun _ _ _ => ⟨rfl, rfl⟩, fun _ _ q => absurd q hg⟩
theorem PUTR_d (h : NRM st co E) (hx : inr (2 ^ st) x) (hg : gN < 5) : PUTR v pl st co E wa tr tu ch gN sg x (nI (gN + 1)) (v, pl, st, co, E, wa, tr, tu, ch, gN + 1, psh sg gN x) := ⟨fun q => absurd h q, fun _ q => absurd hx q, fun _ _ q => absurd hg q, fun _ _ _ => ⟨rfl, rfl⟩⟩
theorem two_eq {a b : Int32} {z1 z2 z : AS} {c : Int32} (h1 : a = c ∧ z1 = z) (h2 : b = c ∧ z2 = z) : a = b ∧ z1 = z2 := ⟨h1.1.trans h2.1.symm, h1.2.trans h2.2.symm⟩
theorem PUTR_eq (h1 : PUTR v pl st co E wa tr tu ch gN sg x r1 z1) (h2 : PUTR v pl st co E wa tr tu ch gN sg x r2 z2) : r1 = r2 ∧ z1 = z2 := by
  by_cases a : NRM st co E
  · by_cases b : inr (2 ^ st) x
    · by_cases c : gN < 5
      · exact two_eq (h1.2.2.2 a b c) (h2.2.2.2 a b c)
      · exact two_eq (h1.2.2.1 a b c) (h2.2.2.1 a b c)
    · exact two_eq (h1.2.1 a b) (h2.2.1 a b)
  · exact two_eq (h1.1 a) (h2.1 a)
def CLRR (v : Nat → Nat) (pl st co : Nat) (E : Nat → Nat → Int32) (wa tr tu ch : Int32) (gN : Nat) (sg : Nat → Int32) (r : Int32) (z1 : AS) : Prop := (¬ NRM st co E → r = -1003 ∧ z1 = (v, pl, st, co, E, wa, tr, tu, ch, gN, sg)) ∧ (NRM st co E → r = nI gN ∧ z1 = (v, pl, st, co, E, wa, tr, tu, ch, 0, sg))
theorem CLRR_a (h : ¬ NRM st co E) : CLRR v pl st co E wa tr tu ch gN sg (-1003) (v, pl, st, co, E, wa, tr, tu, ch, gN, sg) := ⟨fun _ => ⟨rfl, rfl⟩, fun q => absurd q h⟩
theorem CLRR_b (h : NRM st co E) : CLRR v pl st co E wa tr tu ch gN sg (nI gN) (v, pl, st, co, E, wa, tr, tu, ch, 0, sg) := ⟨fun q => absurd h q, fun _ => ⟨rfl, rfl⟩⟩
theorem CLRR_eq (h1 : CLRR v pl st co E wa tr tu ch gN sg r1 z1) (h2 : CLRR v pl st co E wa tr tu ch gN sg r2 z2) : r1 = r2 ∧ z1 = z2 := by
  by_cases a : NRM st co E
  · exact two_eq (h1.2 a) (h2.2 a)
  · exact two_eq (h1.1 a) (h2.1 a)
end RELS
section STEPS
variable {v : Nat → Nat} {pl st co : Nat} {E : Nat → Nat → Int32} {wa tr tu ch : Int32} {gN : Nat} {sg : Nat → Int32} {x1 x2 x3 : Int32}
variable {Fc_unkept : Int32} {Fc_tablesRead : Int32} {Pg_letters : Nat → Int32} {Pg_size : Int32} {Pg_fault : Int32} {Pg_rows : Int32} {Pg_inRow : Int32} {Pg_width : Int32} {Fl_entries : Nat → Int32} {Fl_states : Int32} {Fl_columns : Int32} {Fl_moves : Int32} {Fl_stables : Int32} {Fl_amiss : Int32} {Fl_normal : Int32} {Pt_lessers : Nat → Int32} {Pt_greaters : Nat → Int32} {Pt_size : Int32} {Lc_signals : Nat → Int32} {Lc_kept : Nat → Int64} {Lc_keptFrom : Nat → Int64} {Lc_candidates : Int32} {Lc_size : Int32} {Sc_signals : Nat → Int32} {Sc_codes : Nat → Int32} {Sc_size : Int32} {Ai_codes : Nat → Int32} {Ai_bits : Int32} {Cu_seen : Nat → Int32} {Cu_inThrees : Nat → Int32} {Cu_all : Int32} {Lo_asked : Nat → Nat → Int32} {Lo_ones : Nat → Nat → Int32} {Lo_sum : Nat → Nat → Int32} {Lo_wideSize : Nat → Int32} {Lo_sumSize : Nat → Int32} {Lo_flickers : Nat → Int32} {Lo_ready : Nat → Int32} {Wa_at : Int32} {Wa_turns : Int32} {Wa_changes : Int32}
variable {i_pageLength : Int32} {a_page : Nat → Int32} {i_states : Int32} {i_columns : Int32} {a_entries : Nat → Int32} {i_signals : Int32} {a_signalAt : Nat → Int32} {i_walksAt : Int32} {i_turned : Int32} {i_changed : Int32} {i_read : Int32} {i_newRows : Int32} {i_newEntries : Int32} {i_newColumns : Int32} {i_greatest : Int32} {a_newAt : Nat → Int32} {i_partings : Int32} {a_lowSet : Nat → Int32} {a_highSet : Nat → Int32} {i_leastMany : Int32} {a_leastAt : Nat → Int32} {a_tried : Nat → Int32} {a_keptLow : Nat → Int64} {a_keptHigh : Nat → Int64} {i_laid : Int32} {a_wants : Nat → Int32} {i_wide : Int32} {a_wideAsked : Nat → Int32} {a_wideOnes : Nat → Int32} {i_sum : Int32} {i_flickers : Int32} {a_sumAt : Nat → Int32} {j_h : Int64}
theorem n_letter (h : jC v pl st co E wa tr tu ch gN sg Pg_letters Pg_size Fl_entries Fl_states Fl_columns Wa_at Fc_tablesRead Wa_turns Wa_changes Fc_unkept Fl_moves Fl_stables Fl_amiss Fl_normal Pt_lessers Pt_greaters Pt_size Lc_signals Lc_size Sc_signals Sc_codes Sc_size Ai_codes Ai_bits Cu_inThrees Lo_asked Lo_ones Lo_sum Lo_wideSize Lo_sumSize Lo_flickers Lo_ready) : wp_X9_letter (fun r Pg_letters_ Pg_size_ => ∃ z1 : AS, LETR v pl st co E wa tr tu ch gN sg x1 r z1 ∧ jCz z1 Pg_letters_ Pg_size_ Fl_entries Fl_states Fl_columns Wa_at Fc_tablesRead Wa_turns Wa_changes Fc_unkept Fl_moves Fl_stables Fl_amiss Fl_normal Pt_lessers Pt_greaters Pt_size Lc_signals Lc_size Sc_signals Sc_codes Sc_size Ai_codes Ai_bits Cu_inThrees Lo_asked Lo_ones Lo_sum Lo_wideSize Lo_sumSize Lo_flickers Lo_ready) Pg_letters Pg_size x1 := by
  obtain ⟨hJ, hZ, hK, h3, hL⟩ := h
  obtain ⟨hl, rfl, hv⟩ := id hJ
  obtain ⟨rfl, rfl, rfl, rfl, rfl, rfl, hE, hT, hw⟩ := id hZ
  have hs := hT.1
  have hc := hT.2.1
  obtain ⟨hM, hPt, ⟨hLs, rfl⟩, ⟨hG, rfl, hC⟩, rfl, hA⟩ := id hK
  have hp : PN st co E ≤ 75 := Nat.le_trans (PN_63 hT) (by omega)
  have hz := hLs.1
  have hg := hG.1
  obtain ⟨b, hb, rfl⟩ := hA.1
  obtain ⟨rfl, hPv⟩ := id hPt
  exact h_letter hl (fun q => ⟨_, LETR_a q, hJ, hZ, hK, h3, hL⟩) (fun q1 q2 => ⟨_, LETR_b q1 q2, hJ, hZ, hK, h3, hL⟩) (fun w h1 h2 h4 e => ⟨_, LETR_c h1 h2 h4 e, hJ.push h1 h4 e, hZ, hK, h3, hL⟩)
theorem n_blank (h : jC v pl st co E wa tr tu ch gN sg Pg_letters Pg_size Fl_entries Fl_states Fl_columns Wa_at Fc_tablesRead Wa_turns Wa_changes Fc_unkept Fl_moves Fl_stables Fl_amiss Fl_normal Pt_lessers Pt_greaters Pt_size Lc_signals Lc_size Sc_signals Sc_codes Sc_size Ai_codes Ai_bits Cu_inThrees Lo_asked Lo_ones Lo_sum Lo_wideSize Lo_sumSize Lo_flickers Lo_ready) : wp_X9_blank (fun r Pg_size_ => (r = nI pl) ∧ jC v 0 st co E wa tr tu ch gN sg Pg_letters Pg_size_ Fl_entries Fl_states Fl_columns Wa_at Fc_tablesRead Wa_turns Wa_changes Fc_unkept Fl_moves Fl_stables Fl_amiss Fl_normal Pt_lessers Pt_greaters Pt_size Lc_signals Lc_size Sc_signals Sc_codes Sc_size Ai_codes Ai_bits Cu_inThrees Lo_asked Lo_ones Lo_sum Lo_wideSize Lo_sumSize Lo_flickers Lo_ready) Pg_size := by
  obtain ⟨hJ, hZ, hK, h3, hL⟩ := h
  obtain ⟨hl, rfl, hv⟩ := id hJ
  obtain ⟨rfl, rfl, rfl, rfl, rfl, rfl, hE, hT, hw⟩ := id hZ
  have hs := hT.1
  have hc := hT.2.1
  obtain ⟨hM, hPt, ⟨hLs, rfl⟩, ⟨hG, rfl, hC⟩, rfl, hA⟩ := id hK
  have hp : PN st co E ≤ 75 := Nat.le_trans (PN_63 hT) (by omega)
  have hz := hLs.1
  have hg := hG.1
  obtain ⟨b, hb, rfl⟩ := hA.1
  obtain ⟨rfl, hPv⟩ := id hPt
  exact ⟨rfl, hJ.sub (Nat.zero_le _), hZ, hK, h3, hL⟩
theorem m_letter (h : jM v pl st co E wa tr tu ch gN sg i_pageLength a_page i_states i_columns a_entries i_signals a_signalAt i_walksAt i_read i_turned i_changed i_partings a_lowSet a_highSet i_leastMany a_leastAt i_laid a_wants i_wide a_wideAsked a_wideOnes i_sum i_flickers a_sumAt) : wp_X10_letter (fun r i_pageLength_ a_page_ => ∃ z1 : AS, LETR v pl st co E wa tr tu ch gN sg x1 r z1 ∧ jMz z1 i_pageLength_ a_page_ i_states i_columns a_entries i_signals a_signalAt i_walksAt i_read i_turned i_changed i_partings a_lowSet a_highSet i_leastMany a_leastAt i_laid a_wants i_wide a_wideAsked a_wideOnes i_sum i_flickers a_sumAt) i_pageLength a_page x1 := by
  obtain ⟨hJ, hZ, hK, hs⟩ := h
  obtain ⟨hl, rfl, hv⟩ := id hJ
  obtain ⟨rfl, rfl, rfl, rfl, rfl, rfl, hE, hT, hw⟩ := id hZ
  have hTM := hT.tab hE
  obtain ⟨hPt, ⟨hLs, rfl⟩, hG, rfl⟩ := id hK
  have hp : PN st co E ≤ 75 := Nat.le_trans (PN_63 hT) (by omega)
  have hg := hG.1
  have hm := lmI_M hLs.1
  obtain ⟨rfl, hPv⟩ := id hPt
  exact t_letter hl (fun q => ⟨_, LETR_a q, hJ, hZ, hK, hs⟩) (fun q1 q2 => ⟨_, LETR_b q1 q2, hJ, hZ, hK, hs⟩) (fun w h1 h2 h4 e => ⟨_, LETR_c h1 h2 h4 e, hJ.push h1 h4 e, hZ, hK, hs⟩)
theorem m_blank (h : jM v pl st co E wa tr tu ch gN sg i_pageLength a_page i_states i_columns a_entries i_signals a_signalAt i_walksAt i_read i_turned i_changed i_partings a_lowSet a_highSet i_leastMany a_leastAt i_laid a_wants i_wide a_wideAsked a_wideOnes i_sum i_flickers a_sumAt) : wp_X10_blank (fun r i_pageLength_ => (r = nI pl) ∧ jM v 0 st co E wa tr tu ch gN sg i_pageLength_ a_page i_states i_columns a_entries i_signals a_signalAt i_walksAt i_read i_turned i_changed i_partings a_lowSet a_highSet i_leastMany a_leastAt i_laid a_wants i_wide a_wideAsked a_wideOnes i_sum i_flickers a_sumAt) i_pageLength := by
  obtain ⟨hJ, hZ, hK, hs⟩ := h
  obtain ⟨hl, rfl, hv⟩ := id hJ
  obtain ⟨rfl, rfl, rfl, rfl, rfl, rfl, hE, hT, hw⟩ := id hZ
  have hTM := hT.tab hE
  obtain ⟨hPt, ⟨hLs, rfl⟩, hG, rfl⟩ := id hK
  have hp : PN st co E ≤ 75 := Nat.le_trans (PN_63 hT) (by omega)
  have hg := hG.1
  have hm := lmI_M hLs.1
  obtain ⟨rfl, hPv⟩ := id hPt
  exact ⟨rfl, hJ.sub (Nat.zero_le _), hZ, hK, hs⟩
theorem n_fault (h : jC v pl st co E wa tr tu ch gN sg Pg_letters Pg_size Fl_entries Fl_states Fl_columns Wa_at Fc_tablesRead Wa_turns Wa_changes Fc_unkept Fl_moves Fl_stables Fl_amiss Fl_normal Pt_lessers Pt_greaters Pt_size Lc_signals Lc_size Sc_signals Sc_codes Sc_size Ai_codes Ai_bits Cu_inThrees Lo_asked Lo_ones Lo_sum Lo_wideSize Lo_sumSize Lo_flickers Lo_ready) : wp_X9_fault (fun r Pg_fault_ Pg_rows_ Pg_inRow_ Pg_width_ => (∃ f a b c, r = nI f ∧ FR v pl f a b c) ∧ jC v pl st co E wa tr tu ch gN sg Pg_letters Pg_size Fl_entries Fl_states Fl_columns Wa_at Fc_tablesRead Wa_turns Wa_changes Fc_unkept Fl_moves Fl_stables Fl_amiss Fl_normal Pt_lessers Pt_greaters Pt_size Lc_signals Lc_size Sc_signals Sc_codes Sc_size Ai_codes Ai_bits Cu_inThrees Lo_asked Lo_ones Lo_sum Lo_wideSize Lo_sumSize Lo_flickers Lo_ready) Pg_letters Pg_size Pg_fault Pg_rows Pg_inRow Pg_width := by
  obtain ⟨hJ, hZ, hK, h3, hL⟩ := h
  obtain ⟨hl, rfl, hv⟩ := id hJ
  obtain ⟨rfl, rfl, rfl, rfl, rfl, rfl, hE, hT, hw⟩ := id hZ
  have hs := hT.1
  have hc := hT.2.1
  obtain ⟨hM, hPt, ⟨hLs, rfl⟩, ⟨hG, rfl, hC⟩, rfl, hA⟩ := id hK
  have hp : PN st co E ≤ 75 := Nat.le_trans (PN_63 hT) (by omega)
  have hz := hLs.1
  have hg := hG.1
  obtain ⟨b, hb, rfl⟩ := hA.1
  obtain ⟨rfl, hPv⟩ := id hPt
  exact f_fault hl hv (fun f r e c hF => ⟨⟨f, r, e, c, rfl, hF⟩, hJ, hZ, hK, h3, hL⟩)
theorem m_fault (h : jM v pl st co E wa tr tu ch gN sg i_pageLength a_page i_states i_columns a_entries i_signals a_signalAt i_walksAt i_read i_turned i_changed i_partings a_lowSet a_highSet i_leastMany a_leastAt i_laid a_wants i_wide a_wideAsked a_wideOnes i_sum i_flickers a_sumAt) : wp_X10_fault (fun r i_newRows_ i_newEntries_ i_newColumns_ i_greatest_ a_newAt_ => (∃ f a b c, r = nI f ∧ FR v pl f a b c) ∧ jM v pl st co E wa tr tu ch gN sg i_pageLength a_page i_states i_columns a_entries i_signals a_signalAt i_walksAt i_read i_turned i_changed i_partings a_lowSet a_highSet i_leastMany a_leastAt i_laid a_wants i_wide a_wideAsked a_wideOnes i_sum i_flickers a_sumAt) i_pageLength a_page i_newRows i_newEntries i_newColumns i_greatest a_newAt := by
  obtain ⟨hJ, hZ, hK, hs⟩ := h
  obtain ⟨hl, rfl, hv⟩ := id hJ
  obtain ⟨rfl, rfl, rfl, rfl, rfl, rfl, hE, hT, hw⟩ := id hZ
  have hTM := hT.tab hE
  obtain ⟨hPt, ⟨hLs, rfl⟩, hG, rfl⟩ := id hK
  have hp : PN st co E ≤ 75 := Nat.le_trans (PN_63 hT) (by omega)
  have hg := hG.1
  have hm := lmI_M hLs.1
  obtain ⟨rfl, hPv⟩ := id hPt
  exact s_readPage hl hv (fun f r e c na hF _ _ _ => ⟨⟨f, r, e, c, rfl, hF⟩, hJ, hZ, hK, hs⟩)
theorem n_table (h : jC v pl st co E wa tr tu ch gN sg Pg_letters Pg_size Fl_entries Fl_states Fl_columns Wa_at Fc_tablesRead Wa_turns Wa_changes Fc_unkept Fl_moves Fl_stables Fl_amiss Fl_normal Pt_lessers Pt_greaters Pt_size Lc_signals Lc_size Sc_signals Sc_codes Sc_size Ai_codes Ai_bits Cu_inThrees Lo_asked Lo_ones Lo_sum Lo_wideSize Lo_sumSize Lo_flickers Lo_ready) : wp_X9_table (fun r Fc_unkept_ Fc_tablesRead_ Pg_size_ Pg_fault_ Pg_rows_ Pg_inRow_ Pg_width_ Fl_entries_ Fl_states_ Fl_columns_ Fl_moves_ Fl_stables_ Fl_amiss_ Fl_normal_ Pt_lessers_ Pt_greaters_ Pt_size_ Lc_signals_ Lc_kept_ Lc_keptFrom_ Lc_candidates_ Lc_size_ Sc_signals_ Sc_codes_ Sc_size_ Ai_codes_ Ai_bits_ Lo_ready_ Wa_at_ Wa_turns_ Wa_changes_ => ∃ z1 : AS, TABR v pl st co E wa tr tu ch gN sg r z1 ∧ jCz z1 Pg_letters Pg_size_ Fl_entries_ Fl_states_ Fl_columns_ Wa_at_ Fc_tablesRead_ Wa_turns_ Wa_changes_ Fc_unkept_ Fl_moves_ Fl_stables_ Fl_amiss_ Fl_normal_ Pt_lessers_ Pt_greaters_ Pt_size_ Lc_signals_ Lc_size_ Sc_signals_ Sc_codes_ Sc_size_ Ai_codes_ Ai_bits_ Cu_inThrees Lo_asked Lo_ones Lo_sum Lo_wideSize Lo_sumSize Lo_flickers Lo_ready_) Fc_unkept Fc_tablesRead Pg_letters Pg_size Pg_fault Pg_rows Pg_inRow Pg_width Fl_entries Fl_states Fl_columns Fl_moves Fl_stables Fl_amiss Fl_normal Pt_lessers Pt_greaters Pt_size Lc_signals Lc_kept Lc_keptFrom Lc_candidates Lc_size Sc_signals Sc_codes Sc_size Ai_codes Ai_bits Lo_ready Wa_at Wa_turns Wa_changes := by
  obtain ⟨hJ, hZ, hK, h3, hL⟩ := h
  obtain ⟨hl, rfl, hv⟩ := id hJ
  obtain ⟨rfl, rfl, rfl, rfl, rfl, rfl, hE, hT, hw⟩ := id hZ
  have hs := hT.1
  have hc := hT.2.1
  obtain ⟨hM, hPt, ⟨hLs, rfl⟩, ⟨hG, rfl, hC⟩, rfl, hA⟩ := id hK
  have hp : PN st co E ≤ 75 := Nat.le_trans (PN_63 hT) (by omega)
  have hz := hLs.1
  have hg := hG.1
  obtain ⟨b, hb, rfl⟩ := hA.1
  obtain ⟨rfl, hPv⟩ := id hPt
  exact g_table hl hv ⟨b, hb, rfl⟩ (fun q fa ro ir wi => ⟨_, TABR_a q, hJ, hZ, hK, h3, hL⟩) (fun a c hF h0 hgm hT' u fa ro ir wi en' mo sb am nm lo hi pz ls kp kf ca lz ss cd gz ac bz rd hen hK' hr => ⟨_, TABR_b hF h0 hgm, hJ.sub (Nat.zero_le _), ⟨rfl, rfl, rfl, rfl, rfl, rfl, hen, hT', Or.inl rfl⟩, hK', h3, loQ_0 hr hK'.2.2.2.1.1.1⟩)
theorem m_table (h : jM v pl st co E wa tr tu ch gN sg i_pageLength a_page i_states i_columns a_entries i_signals a_signalAt i_walksAt i_read i_turned i_changed i_partings a_lowSet a_highSet i_leastMany a_leastAt i_laid a_wants i_wide a_wideAsked a_wideOnes i_sum i_flickers a_sumAt) : wp_X10_table (fun r i_pageLength_ i_states_ i_columns_ a_entries_ i_signals_ a_signalAt_ i_walksAt_ i_turned_ i_changed_ i_read_ i_newRows_ i_newEntries_ i_newColumns_ i_greatest_ a_newAt_ i_partings_ a_lowSet_ a_highSet_ i_leastMany_ a_leastAt_ a_tried_ a_keptLow_ a_keptHigh_ i_laid_ => ∃ z1 : AS, TABR v pl st co E wa tr tu ch gN sg r z1 ∧ jMz z1 i_pageLength_ a_page i_states_ i_columns_ a_entries_ i_signals_ a_signalAt_ i_walksAt_ i_read_ i_turned_ i_changed_ i_partings_ a_lowSet_ a_highSet_ i_leastMany_ a_leastAt_ i_laid_ a_wants i_wide a_wideAsked a_wideOnes i_sum i_flickers a_sumAt) i_pageLength a_page i_states i_columns a_entries i_signals a_signalAt i_walksAt i_turned i_changed i_read i_newRows i_newEntries i_newColumns i_greatest a_newAt i_partings a_lowSet a_highSet i_leastMany a_leastAt a_tried a_keptLow a_keptHigh i_laid := by
  obtain ⟨hJ, hZ, hK, hs⟩ := h
  obtain ⟨hl, rfl, hv⟩ := id hJ
  obtain ⟨rfl, rfl, rfl, rfl, rfl, rfl, hE, hT, hw⟩ := id hZ
  have hTM := hT.tab hE
  obtain ⟨hPt, ⟨hLs, rfl⟩, hG, rfl⟩ := id hK
  have hp : PN st co E ≤ 75 := Nat.le_trans (PN_63 hT) (by omega)
  have hg := hG.1
  have hm := lmI_M hLs.1
  obtain ⟨rfl, hPv⟩ := id hPt
  exact r_table hl hv (fun q nr ne nc gr na => ⟨_, TABR_a q, hJ, hZ, hK, hs⟩) (fun a c hF h0 hgm hT' en' gz ss nr ne nc gr na pz lo hi lm la tr kl kh hen hK' => ⟨_, TABR_b hF h0 hgm, hJ.sub (Nat.zero_le _), ⟨rfl, rfl, rfl, rfl, rfl, rfl, hen, hT', Or.inl rfl⟩, hK', reQ_m hK'.2.2.1.1⟩)
theorem n_entry (h : jC v pl st co E wa tr tu ch gN sg Pg_letters Pg_size Fl_entries Fl_states Fl_columns Wa_at Fc_tablesRead Wa_turns Wa_changes Fc_unkept Fl_moves Fl_stables Fl_amiss Fl_normal Pt_lessers Pt_greaters Pt_size Lc_signals Lc_size Sc_signals Sc_codes Sc_size Ai_codes Ai_bits Cu_inThrees Lo_asked Lo_ones Lo_sum Lo_wideSize Lo_sumSize Lo_flickers Lo_ready) : wp_X9_entry (fun r => ENTR st co E x1 x2 r) Fl_entries Fl_states Fl_columns x1 x2 := by
  obtain ⟨hJ, hZ, hK, h3, hL⟩ := h
  obtain ⟨hl, rfl, hv⟩ := id hJ
  obtain ⟨rfl, rfl, rfl, rfl, rfl, rfl, hE, hT, hw⟩ := id hZ
  have hs := hT.1
  have hc := hT.2.1
  obtain ⟨hM, hPt, ⟨hLs, rfl⟩, ⟨hG, rfl, hC⟩, rfl, hA⟩ := id hK
  have hp : PN st co E ≤ 75 := Nat.le_trans (PN_63 hT) (by omega)
  have hz := hLs.1
  have hg := hG.1
  obtain ⟨b, hb, rfl⟩ := hA.1
  obtain ⟨rfl, hPv⟩ := id hPt
  exact h_entry hs hc (fun q => ENTR_a q) (fun j k h1 h2 e1 e2 => by rw [hE j k h1 h2]; exact ENTR_b hs hc h1 h2 e1 e2)
theorem m_entry (h : jM v pl st co E wa tr tu ch gN sg i_pageLength a_page i_states i_columns a_entries i_signals a_signalAt i_walksAt i_read i_turned i_changed i_partings a_lowSet a_highSet i_leastMany a_leastAt i_laid a_wants i_wide a_wideAsked a_wideOnes i_sum i_flickers a_sumAt) : wp_X10_entry (fun r => ENTR st co E x1 x2 r) i_states i_columns a_entries x1 x2 := by
  obtain ⟨hJ, hZ, hK, hs⟩ := h
  obtain ⟨hl, rfl, hv⟩ := id hJ
  obtain ⟨rfl, rfl, rfl, rfl, rfl, rfl, hE, hT, hw⟩ := id hZ
  have hTM := hT.tab hE
  obtain ⟨hPt, ⟨hLs, rfl⟩, hG, rfl⟩ := id hK
  have hp : PN st co E ≤ 75 := Nat.le_trans (PN_63 hT) (by omega)
  have hg := hG.1
  have hm := lmI_M hLs.1
  obtain ⟨rfl, hPv⟩ := id hPt
  exact t_entry hTM (fun q => ENTR_a q) (fun j k h1 h2 e1 e2 => by rw [hE j k h1 h2]; exact ENTR_b hT.1 hT.2.1 h1 h2 e1 e2)
theorem n_about (h : jC v pl st co E wa tr tu ch gN sg Pg_letters Pg_size Fl_entries Fl_states Fl_columns Wa_at Fc_tablesRead Wa_turns Wa_changes Fc_unkept Fl_moves Fl_stables Fl_amiss Fl_normal Pt_lessers Pt_greaters Pt_size Lc_signals Lc_size Sc_signals Sc_codes Sc_size Ai_codes Ai_bits Cu_inThrees Lo_asked Lo_ones Lo_sum Lo_wideSize Lo_sumSize Lo_flickers Lo_ready) : wp_X9_about (fun r => r = aboF st co E x1) Fl_states Fl_moves Fl_stables Fl_amiss Fl_normal Pt_size x1 := by
  obtain ⟨hJ, hZ, hK, h3, hL⟩ := h
  obtain ⟨hl, rfl, hv⟩ := id hJ
  obtain ⟨rfl, rfl, rfl, rfl, rfl, rfl, hE, hT, hw⟩ := id hZ
  have hs := hT.1
  have hc := hT.2.1
  obtain ⟨hM, hPt, ⟨hLs, rfl⟩, ⟨hG, rfl, hC⟩, rfl, hA⟩ := id hK
  have hp : PN st co E ≤ 75 := Nat.le_trans (PN_63 hT) (by omega)
  have hz := hLs.1
  have hg := hG.1
  obtain ⟨b, hb, rfl⟩ := hA.1
  obtain ⟨rfl, hPv⟩ := id hPt
  exact g_about hs hM hPt rfl
theorem n_parting (h : jC v pl st co E wa tr tu ch gN sg Pg_letters Pg_size Fl_entries Fl_states Fl_columns Wa_at Fc_tablesRead Wa_turns Wa_changes Fc_unkept Fl_moves Fl_stables Fl_amiss Fl_normal Pt_lessers Pt_greaters Pt_size Lc_signals Lc_size Sc_signals Sc_codes Sc_size Ai_codes Ai_bits Cu_inThrees Lo_asked Lo_ones Lo_sum Lo_wideSize Lo_sumSize Lo_flickers Lo_ready) : wp_X9_parting (fun r => r = prtF st co E gN sg x1 x2) Fl_normal Pt_lessers Pt_greaters Pt_size Sc_signals Sc_size x1 x2 := by
  obtain ⟨hJ, hZ, hK, h3, hL⟩ := h
  obtain ⟨hl, rfl, hv⟩ := id hJ
  obtain ⟨rfl, rfl, rfl, rfl, rfl, rfl, hE, hT, hw⟩ := id hZ
  have hs := hT.1
  have hc := hT.2.1
  obtain ⟨hM, hPt, ⟨hLs, rfl⟩, ⟨hG, rfl, hC⟩, rfl, hA⟩ := id hK
  have hp : PN st co E ≤ 75 := Nat.le_trans (PN_63 hT) (by omega)
  have hz := hLs.1
  have hg := hG.1
  obtain ⟨b, hb, rfl⟩ := hA.1
  obtain ⟨rfl, hPv⟩ := id hPt
  exact g_parting hT hM hPt hG rfl
theorem n_least (h : jC v pl st co E wa tr tu ch gN sg Pg_letters Pg_size Fl_entries Fl_states Fl_columns Wa_at Fc_tablesRead Wa_turns Wa_changes Fc_unkept Fl_moves Fl_stables Fl_amiss Fl_normal Pt_lessers Pt_greaters Pt_size Lc_signals Lc_size Sc_signals Sc_codes Sc_size Ai_codes Ai_bits Cu_inThrees Lo_asked Lo_ones Lo_sum Lo_wideSize Lo_sumSize Lo_flickers Lo_ready) : wp_X9_least (fun r => r = lstF st co E x1) Fl_normal Lc_signals Lc_size x1 := by
  obtain ⟨hJ, hZ, hK, h3, hL⟩ := h
  obtain ⟨hl, rfl, hv⟩ := id hJ
  obtain ⟨rfl, rfl, rfl, rfl, rfl, rfl, hE, hT, hw⟩ := id hZ
  have hs := hT.1
  have hc := hT.2.1
  obtain ⟨hM, hPt, ⟨hLs, rfl⟩, ⟨hG, rfl, hC⟩, rfl, hA⟩ := id hK
  have hp : PN st co E ≤ 75 := Nat.le_trans (PN_63 hT) (by omega)
  have hz := hLs.1
  have hg := hG.1
  obtain ⟨b, hb, rfl⟩ := hA.1
  obtain ⟨rfl, hPv⟩ := id hPt
  exact g_least hM hLs rfl
theorem n_code (h : jC v pl st co E wa tr tu ch gN sg Pg_letters Pg_size Fl_entries Fl_states Fl_columns Wa_at Fc_tablesRead Wa_turns Wa_changes Fc_unkept Fl_moves Fl_stables Fl_amiss Fl_normal Pt_lessers Pt_greaters Pt_size Lc_signals Lc_size Sc_signals Sc_codes Sc_size Ai_codes Ai_bits Cu_inThrees Lo_asked Lo_ones Lo_sum Lo_wideSize Lo_sumSize Lo_flickers Lo_ready) : wp_X9_code (fun r => r = codF st co E gN sg x1) Fl_states Fl_normal Sc_codes x1 := by
  obtain ⟨hJ, hZ, hK, h3, hL⟩ := h
  obtain ⟨hl, rfl, hv⟩ := id hJ
  obtain ⟨rfl, rfl, rfl, rfl, rfl, rfl, hE, hT, hw⟩ := id hZ
  have hs := hT.1
  have hc := hT.2.1
  obtain ⟨hM, hPt, ⟨hLs, rfl⟩, ⟨hG, rfl, hC⟩, rfl, hA⟩ := id hK
  have hp : PN st co E ≤ 75 := Nat.le_trans (PN_63 hT) (by omega)
  have hz := hLs.1
  have hg := hG.1
  obtain ⟨b, hb, rfl⟩ := hA.1
  obtain ⟨rfl, hPv⟩ := id hPt
  exact g_code hs hM hC rfl
theorem n_coded (h : jC v pl st co E wa tr tu ch gN sg Pg_letters Pg_size Fl_entries Fl_states Fl_columns Wa_at Fc_tablesRead Wa_turns Wa_changes Fc_unkept Fl_moves Fl_stables Fl_amiss Fl_normal Pt_lessers Pt_greaters Pt_size Lc_signals Lc_size Sc_signals Sc_codes Sc_size Ai_codes Ai_bits Cu_inThrees Lo_asked Lo_ones Lo_sum Lo_wideSize Lo_sumSize Lo_flickers Lo_ready) : wp_X9_coded (fun r => r = cddF st co E gN sg x1) Fc_unkept Fl_entries Fl_states Fl_columns Fl_normal Sc_codes Sc_size x1 := by
  obtain ⟨hJ, hZ, hK, h3, hL⟩ := h
  obtain ⟨hl, rfl, hv⟩ := id hJ
  obtain ⟨rfl, rfl, rfl, rfl, rfl, rfl, hE, hT, hw⟩ := id hZ
  have hs := hT.1
  have hc := hT.2.1
  obtain ⟨hM, hPt, ⟨hLs, rfl⟩, ⟨hG, rfl, hC⟩, rfl, hA⟩ := id hK
  have hp : PN st co E ≤ 75 := Nat.le_trans (PN_63 hT) (by omega)
  have hz := hLs.1
  have hg := hG.1
  obtain ⟨b, hb, rfl⟩ := hA.1
  obtain ⟨rfl, hPv⟩ := id hPt
  exact g_coded hT hE hM hg hC rfl
theorem n_wanted (h : jC v pl st co E wa tr tu ch gN sg Pg_letters Pg_size Fl_entries Fl_states Fl_columns Wa_at Fc_tablesRead Wa_turns Wa_changes Fc_unkept Fl_moves Fl_stables Fl_amiss Fl_normal Pt_lessers Pt_greaters Pt_size Lc_signals Lc_size Sc_signals Sc_codes Sc_size Ai_codes Ai_bits Cu_inThrees Lo_asked Lo_ones Lo_sum Lo_wideSize Lo_sumSize Lo_flickers Lo_ready) : wp_X9_wanted (fun r => r = wanF st co E gN sg x1 x2) Fc_unkept Fl_normal Sc_size Ai_codes Ai_bits x1 x2 := by
  obtain ⟨hJ, hZ, hK, h3, hL⟩ := h
  obtain ⟨hl, rfl, hv⟩ := id hJ
  obtain ⟨rfl, rfl, rfl, rfl, rfl, rfl, hE, hT, hw⟩ := id hZ
  have hs := hT.1
  have hc := hT.2.1
  obtain ⟨hM, hPt, ⟨hLs, rfl⟩, ⟨hG, rfl, hC⟩, rfl, hA⟩ := id hK
  have hp : PN st co E ≤ 75 := Nat.le_trans (PN_63 hT) (by omega)
  have hz := hLs.1
  have hg := hG.1
  obtain ⟨b, hb, rfl⟩ := hA.1
  obtain ⟨rfl, hPv⟩ := id hPt
  exact g_wanted hM hg hA rfl
theorem n_count (h : jC v pl st co E wa tr tu ch gN sg Pg_letters Pg_size Fl_entries Fl_states Fl_columns Wa_at Fc_tablesRead Wa_turns Wa_changes Fc_unkept Fl_moves Fl_stables Fl_amiss Fl_normal Pt_lessers Pt_greaters Pt_size Lc_signals Lc_size Sc_signals Sc_codes Sc_size Ai_codes Ai_bits Cu_inThrees Lo_asked Lo_ones Lo_sum Lo_wideSize Lo_sumSize Lo_flickers Lo_ready) : wp_X9_count (fun r => r = cntF st co x1 pl wa tu ch tr) Fc_tablesRead Pg_size Fl_states Fl_columns Wa_at Wa_turns Wa_changes x1 := by
  obtain ⟨hJ, hZ, hK, h3, hL⟩ := h
  obtain ⟨hl, rfl, hv⟩ := id hJ
  obtain ⟨rfl, rfl, rfl, rfl, rfl, rfl, hE, hT, hw⟩ := id hZ
  have hs := hT.1
  have hc := hT.2.1
  obtain ⟨hM, hPt, ⟨hLs, rfl⟩, ⟨hG, rfl, hC⟩, rfl, hA⟩ := id hK
  have hp : PN st co E ≤ 75 := Nat.le_trans (PN_63 hT) (by omega)
  have hz := hLs.1
  have hg := hG.1
  obtain ⟨b, hb, rfl⟩ := hA.1
  obtain ⟨rfl, hPv⟩ := id hPt
  exact g_count rfl
theorem m_about (h : jM v pl st co E wa tr tu ch gN sg i_pageLength a_page i_states i_columns a_entries i_signals a_signalAt i_walksAt i_read i_turned i_changed i_partings a_lowSet a_highSet i_leastMany a_leastAt i_laid a_wants i_wide a_wideAsked a_wideOnes i_sum i_flickers a_sumAt) : wp_X10_about (fun r => r = aboF st co E x1) i_states i_columns a_entries i_partings x1 := by
  obtain ⟨hJ, hZ, hK, hs⟩ := h
  obtain ⟨hl, rfl, hv⟩ := id hJ
  obtain ⟨rfl, rfl, rfl, rfl, rfl, rfl, hE, hT, hw⟩ := id hZ
  have hTM := hT.tab hE
  obtain ⟨hPt, ⟨hLs, rfl⟩, hG, rfl⟩ := id hK
  have hp : PN st co E ≤ 75 := Nat.le_trans (PN_63 hT) (by omega)
  have hg := hG.1
  have hm := lmI_M hLs.1
  obtain ⟨rfl, hPv⟩ := id hPt
  exact r_about hT hE hPt rfl
theorem m_parting (h : jM v pl st co E wa tr tu ch gN sg i_pageLength a_page i_states i_columns a_entries i_signals a_signalAt i_walksAt i_read i_turned i_changed i_partings a_lowSet a_highSet i_leastMany a_leastAt i_laid a_wants i_wide a_wideAsked a_wideOnes i_sum i_flickers a_sumAt) : wp_X10_parting (fun r => r = prtF st co E gN sg x1 x2) i_states i_columns a_entries i_signals a_signalAt i_partings a_lowSet a_highSet x1 x2 := by
  obtain ⟨hJ, hZ, hK, hs⟩ := h
  obtain ⟨hl, rfl, hv⟩ := id hJ
  obtain ⟨rfl, rfl, rfl, rfl, rfl, rfl, hE, hT, hw⟩ := id hZ
  have hTM := hT.tab hE
  obtain ⟨hPt, ⟨hLs, rfl⟩, hG, rfl⟩ := id hK
  have hp : PN st co E ≤ 75 := Nat.le_trans (PN_63 hT) (by omega)
  have hg := hG.1
  have hm := lmI_M hLs.1
  obtain ⟨rfl, hPv⟩ := id hPt
  exact r_parting hT hE hPt hG rfl
theorem m_least (h : jM v pl st co E wa tr tu ch gN sg i_pageLength a_page i_states i_columns a_entries i_signals a_signalAt i_walksAt i_read i_turned i_changed i_partings a_lowSet a_highSet i_leastMany a_leastAt i_laid a_wants i_wide a_wideAsked a_wideOnes i_sum i_flickers a_sumAt) : wp_X10_least (fun r => r = lstF st co E x1) i_states i_columns a_entries i_leastMany a_leastAt x1 := by
  obtain ⟨hJ, hZ, hK, hs⟩ := h
  obtain ⟨hl, rfl, hv⟩ := id hJ
  obtain ⟨rfl, rfl, rfl, rfl, rfl, rfl, hE, hT, hw⟩ := id hZ
  have hTM := hT.tab hE
  obtain ⟨hPt, ⟨hLs, rfl⟩, hG, rfl⟩ := id hK
  have hp : PN st co E ≤ 75 := Nat.le_trans (PN_63 hT) (by omega)
  have hg := hG.1
  have hm := lmI_M hLs.1
  obtain ⟨rfl, hPv⟩ := id hPt
  exact r_least hT hE hLs rfl
theorem m_code (h : jM v pl st co E wa tr tu ch gN sg i_pageLength a_page i_states i_columns a_entries i_signals a_signalAt i_walksAt i_read i_turned i_changed i_partings a_lowSet a_highSet i_leastMany a_leastAt i_laid a_wants i_wide a_wideAsked a_wideOnes i_sum i_flickers a_sumAt) : wp_X10_code (fun r => r = codF st co E gN sg x1) i_states i_columns a_entries i_signals a_signalAt x1 := by
  obtain ⟨hJ, hZ, hK, hs⟩ := h
  obtain ⟨hl, rfl, hv⟩ := id hJ
  obtain ⟨rfl, rfl, rfl, rfl, rfl, rfl, hE, hT, hw⟩ := id hZ
  have hTM := hT.tab hE
  obtain ⟨hPt, ⟨hLs, rfl⟩, hG, rfl⟩ := id hK
  have hp : PN st co E ≤ 75 := Nat.le_trans (PN_63 hT) (by omega)
  have hg := hG.1
  have hm := lmI_M hLs.1
  obtain ⟨rfl, hPv⟩ := id hPt
  exact r_code hT hE hG rfl
theorem m_coded (h : jM v pl st co E wa tr tu ch gN sg i_pageLength a_page i_states i_columns a_entries i_signals a_signalAt i_walksAt i_read i_turned i_changed i_partings a_lowSet a_highSet i_leastMany a_leastAt i_laid a_wants i_wide a_wideAsked a_wideOnes i_sum i_flickers a_sumAt) : wp_X10_coded (fun r => r = cddF st co E gN sg x1) i_states i_columns a_entries i_signals a_signalAt i_partings a_lowSet a_highSet x1 := by
  obtain ⟨hJ, hZ, hK, hs⟩ := h
  obtain ⟨hl, rfl, hv⟩ := id hJ
  obtain ⟨rfl, rfl, rfl, rfl, rfl, rfl, hE, hT, hw⟩ := id hZ
  have hTM := hT.tab hE
  obtain ⟨hPt, ⟨hLs, rfl⟩, hG, rfl⟩ := id hK
  have hp : PN st co E ≤ 75 := Nat.le_trans (PN_63 hT) (by omega)
  have hg := hG.1
  have hm := lmI_M hLs.1
  obtain ⟨rfl, hPv⟩ := id hPt
  exact r_coded hT hE hPt hG rfl
theorem m_wanted (h : jM v pl st co E wa tr tu ch gN sg i_pageLength a_page i_states i_columns a_entries i_signals a_signalAt i_walksAt i_read i_turned i_changed i_partings a_lowSet a_highSet i_leastMany a_leastAt i_laid a_wants i_wide a_wideAsked a_wideOnes i_sum i_flickers a_sumAt) : wp_X10_wanted (fun r => r = wanF st co E gN sg x1 x2) i_states i_columns a_entries i_signals a_signalAt i_partings a_lowSet a_highSet x1 x2 := by
  obtain ⟨hJ, hZ, hK, hs⟩ := h
  obtain ⟨hl, rfl, hv⟩ := id hJ
  obtain ⟨rfl, rfl, rfl, rfl, rfl, rfl, hE, hT, hw⟩ := id hZ
  have hTM := hT.tab hE
  obtain ⟨hPt, ⟨hLs, rfl⟩, hG, rfl⟩ := id hK
  have hp : PN st co E ≤ 75 := Nat.le_trans (PN_63 hT) (by omega)
  have hg := hG.1
  have hm := lmI_M hLs.1
  obtain ⟨rfl, hPv⟩ := id hPt
  exact r_wanted hT hE hPt hG rfl
theorem m_count (h : jM v pl st co E wa tr tu ch gN sg i_pageLength a_page i_states i_columns a_entries i_signals a_signalAt i_walksAt i_read i_turned i_changed i_partings a_lowSet a_highSet i_leastMany a_leastAt i_laid a_wants i_wide a_wideAsked a_wideOnes i_sum i_flickers a_sumAt) : wp_X10_count (fun r => r = cntF st co x1 pl wa tu ch tr) i_pageLength i_states i_columns i_walksAt i_turned i_changed i_read x1 := by
  obtain ⟨hJ, hZ, hK, hs⟩ := h
  obtain ⟨hl, rfl, hv⟩ := id hJ
  obtain ⟨rfl, rfl, rfl, rfl, rfl, rfl, hE, hT, hw⟩ := id hZ
  have hTM := hT.tab hE
  obtain ⟨hPt, ⟨hLs, rfl⟩, hG, rfl⟩ := id hK
  have hp : PN st co E ≤ 75 := Nat.le_trans (PN_63 hT) (by omega)
  have hg := hG.1
  have hm := lmI_M hLs.1
  obtain ⟨rfl, hPv⟩ := id hPt
  exact r_count rfl
theorem n_put (h : jC v pl st co E wa tr tu ch gN sg Pg_letters Pg_size Fl_entries Fl_states Fl_columns Wa_at Fc_tablesRead Wa_turns Wa_changes Fc_unkept Fl_moves Fl_stables Fl_amiss Fl_normal Pt_lessers Pt_greaters Pt_size Lc_signals Lc_size Sc_signals Sc_codes Sc_size Ai_codes Ai_bits Cu_inThrees Lo_asked Lo_ones Lo_sum Lo_wideSize Lo_sumSize Lo_flickers Lo_ready) : wp_X9_put (fun r Fc_unkept_ Sc_signals_ Sc_codes_ Sc_size_ Ai_codes_ Ai_bits_ Lo_ready_ => ∃ z1 : AS, PUTR v pl st co E wa tr tu ch gN sg x1 r z1 ∧ jCz z1 Pg_letters Pg_size Fl_entries Fl_states Fl_columns Wa_at Fc_tablesRead Wa_turns Wa_changes Fc_unkept_ Fl_moves Fl_stables Fl_amiss Fl_normal Pt_lessers Pt_greaters Pt_size Lc_signals Lc_size Sc_signals_ Sc_codes_ Sc_size_ Ai_codes_ Ai_bits_ Cu_inThrees Lo_asked Lo_ones Lo_sum Lo_wideSize Lo_sumSize Lo_flickers Lo_ready_) Fc_unkept Fl_entries Fl_states Fl_columns Fl_normal Pt_lessers Pt_greaters Pt_size Sc_signals Sc_codes Sc_size Ai_codes Ai_bits Lo_ready x1 := by
  obtain ⟨hJ, hZ, hK, h3, hL⟩ := h
  obtain ⟨hl, rfl, hv⟩ := id hJ
  obtain ⟨rfl, rfl, rfl, rfl, rfl, rfl, hE, hT, hw⟩ := id hZ
  have hs := hT.1
  have hc := hT.2.1
  obtain ⟨hM, hPt, ⟨hLs, rfl⟩, ⟨hG, rfl, hC⟩, rfl, hA⟩ := id hK
  have hp : PN st co E ≤ 75 := Nat.le_trans (PN_63 hT) (by omega)
  have hz := hLs.1
  have hg := hG.1
  obtain ⟨b, hb, rfl⟩ := hA.1
  obtain ⟨rfl, hPv⟩ := id hPt
  exact g_put hT hE hK (fun n => ⟨_, PUTR_a n, hJ, hZ, hK, h3, hL⟩) (fun n q => ⟨_, PUTR_b n q, hJ, hZ, hK, h3, hL⟩) (fun n q g => ⟨_, PUTR_c n q g, hJ, hZ, hK, h3, hL⟩) (fun n q g un' ss' cd' gz' ac' bz' rd' hK' hr => ⟨_, PUTR_d n q g, hJ, hZ, hK', h3, loQ_0 hr hK'.2.2.2.1.1.1⟩)
theorem n_clear (h : jC v pl st co E wa tr tu ch gN sg Pg_letters Pg_size Fl_entries Fl_states Fl_columns Wa_at Fc_tablesRead Wa_turns Wa_changes Fc_unkept Fl_moves Fl_stables Fl_amiss Fl_normal Pt_lessers Pt_greaters Pt_size Lc_signals Lc_size Sc_signals Sc_codes Sc_size Ai_codes Ai_bits Cu_inThrees Lo_asked Lo_ones Lo_sum Lo_wideSize Lo_sumSize Lo_flickers Lo_ready) : wp_X9_clear (fun r Fc_unkept_ Sc_codes_ Sc_size_ Ai_codes_ Ai_bits_ Lo_ready_ => ∃ z1 : AS, CLRR v pl st co E wa tr tu ch gN sg r z1 ∧ jCz z1 Pg_letters Pg_size Fl_entries Fl_states Fl_columns Wa_at Fc_tablesRead Wa_turns Wa_changes Fc_unkept_ Fl_moves Fl_stables Fl_amiss Fl_normal Pt_lessers Pt_greaters Pt_size Lc_signals Lc_size Sc_signals Sc_codes_ Sc_size_ Ai_codes_ Ai_bits_ Cu_inThrees Lo_asked Lo_ones Lo_sum Lo_wideSize Lo_sumSize Lo_flickers Lo_ready_) Fc_unkept Fl_entries Fl_states Fl_columns Fl_normal Pt_lessers Pt_greaters Pt_size Sc_signals Sc_codes Sc_size Ai_codes Ai_bits Lo_ready := by
  obtain ⟨hJ, hZ, hK, h3, hL⟩ := h
  obtain ⟨hl, rfl, hv⟩ := id hJ
  obtain ⟨rfl, rfl, rfl, rfl, rfl, rfl, hE, hT, hw⟩ := id hZ
  have hs := hT.1
  have hc := hT.2.1
  obtain ⟨hM, hPt, ⟨hLs, rfl⟩, ⟨hG, rfl, hC⟩, rfl, hA⟩ := id hK
  have hp : PN st co E ≤ 75 := Nat.le_trans (PN_63 hT) (by omega)
  have hz := hLs.1
  have hg := hG.1
  obtain ⟨b, hb, rfl⟩ := hA.1
  obtain ⟨rfl, hPv⟩ := id hPt
  exact g_clear hT hE hK (fun n => ⟨_, CLRR_a n, hJ, hZ, hK, h3, hL⟩) (fun n un' cd' gz' ac' bz' rd' hK' hr => ⟨_, CLRR_b n, hJ, hZ, hK', h3, loQ_0 hr hK'.2.2.2.1.1.1⟩)
theorem n_logic (h : jC v pl st co E wa tr tu ch gN sg Pg_letters Pg_size Fl_entries Fl_states Fl_columns Wa_at Fc_tablesRead Wa_turns Wa_changes Fc_unkept Fl_moves Fl_stables Fl_amiss Fl_normal Pt_lessers Pt_greaters Pt_size Lc_signals Lc_size Sc_signals Sc_codes Sc_size Ai_codes Ai_bits Cu_inThrees Lo_asked Lo_ones Lo_sum Lo_wideSize Lo_sumSize Lo_flickers Lo_ready) : wp_X9_logic (fun r Cu_seen_ Cu_all_ Lo_asked_ Lo_ones_ Lo_sum_ Lo_wideSize_ Lo_sumSize_ Lo_flickers_ Lo_ready_ => (r = lgcF st co E gN sg x1 x2) ∧ jC v pl st co E wa tr tu ch gN sg Pg_letters Pg_size Fl_entries Fl_states Fl_columns Wa_at Fc_tablesRead Wa_turns Wa_changes Fc_unkept Fl_moves Fl_stables Fl_amiss Fl_normal Pt_lessers Pt_greaters Pt_size Lc_signals Lc_size Sc_signals Sc_codes Sc_size Ai_codes Ai_bits Cu_inThrees Lo_asked_ Lo_ones_ Lo_sum_ Lo_wideSize_ Lo_sumSize_ Lo_flickers_ Lo_ready_) Fc_unkept Fl_normal Sc_size Ai_codes Ai_bits Cu_seen Cu_inThrees Cu_all Lo_asked Lo_ones Lo_sum Lo_wideSize Lo_sumSize Lo_flickers Lo_ready x1 x2 := by
  obtain ⟨hJ, hZ, hK, h3, hL⟩ := h
  obtain ⟨hl, rfl, hv⟩ := id hJ
  obtain ⟨rfl, rfl, rfl, rfl, rfl, rfl, hE, hT, hw⟩ := id hZ
  have hs := hT.1
  have hc := hT.2.1
  obtain ⟨hM, hPt, ⟨hLs, rfl⟩, ⟨hG, rfl, hC⟩, rfl, hA⟩ := id hK
  have hp : PN st co E ≤ 75 := Nat.le_trans (PN_63 hT) (by omega)
  have hz := hLs.1
  have hg := hG.1
  obtain ⟨b, hb, rfl⟩ := hA.1
  obtain ⟨rfl, hPv⟩ := id hPt
  exact g_logic hg h3 hM hA hL (fun se al as on sm wd sz fl rd hL => ⟨rfl, hJ, hZ, hK, h3, hL⟩)
theorem n_product (h : jC v pl st co E wa tr tu ch gN sg Pg_letters Pg_size Fl_entries Fl_states Fl_columns Wa_at Fc_tablesRead Wa_turns Wa_changes Fc_unkept Fl_moves Fl_stables Fl_amiss Fl_normal Pt_lessers Pt_greaters Pt_size Lc_signals Lc_size Sc_signals Sc_codes Sc_size Ai_codes Ai_bits Cu_inThrees Lo_asked Lo_ones Lo_sum Lo_wideSize Lo_sumSize Lo_flickers Lo_ready) : wp_X9_product (fun r Cu_seen_ Cu_all_ Lo_asked_ Lo_ones_ Lo_sum_ Lo_wideSize_ Lo_sumSize_ Lo_flickers_ Lo_ready_ => (r = proF st co E gN sg x1 x2 x3) ∧ jC v pl st co E wa tr tu ch gN sg Pg_letters Pg_size Fl_entries Fl_states Fl_columns Wa_at Fc_tablesRead Wa_turns Wa_changes Fc_unkept Fl_moves Fl_stables Fl_amiss Fl_normal Pt_lessers Pt_greaters Pt_size Lc_signals Lc_size Sc_signals Sc_codes Sc_size Ai_codes Ai_bits Cu_inThrees Lo_asked_ Lo_ones_ Lo_sum_ Lo_wideSize_ Lo_sumSize_ Lo_flickers_ Lo_ready_) Fc_unkept Fl_normal Sc_size Ai_codes Ai_bits Cu_seen Cu_inThrees Cu_all Lo_asked Lo_ones Lo_sum Lo_wideSize Lo_sumSize Lo_flickers Lo_ready x1 x2 x3 := by
  obtain ⟨hJ, hZ, hK, h3, hL⟩ := h
  obtain ⟨hl, rfl, hv⟩ := id hJ
  obtain ⟨rfl, rfl, rfl, rfl, rfl, rfl, hE, hT, hw⟩ := id hZ
  have hs := hT.1
  have hc := hT.2.1
  obtain ⟨hM, hPt, ⟨hLs, rfl⟩, ⟨hG, rfl, hC⟩, rfl, hA⟩ := id hK
  have hp : PN st co E ≤ 75 := Nat.le_trans (PN_63 hT) (by omega)
  have hz := hLs.1
  have hg := hG.1
  obtain ⟨b, hb, rfl⟩ := hA.1
  obtain ⟨rfl, hPv⟩ := id hPt
  exact g_product hg h3 hM hA hL (fun se al as on sm wd sz fl rd hL => ⟨rfl, hJ, hZ, hK, h3, hL⟩)
theorem n_wide (h : jC v pl st co E wa tr tu ch gN sg Pg_letters Pg_size Fl_entries Fl_states Fl_columns Wa_at Fc_tablesRead Wa_turns Wa_changes Fc_unkept Fl_moves Fl_stables Fl_amiss Fl_normal Pt_lessers Pt_greaters Pt_size Lc_signals Lc_size Sc_signals Sc_codes Sc_size Ai_codes Ai_bits Cu_inThrees Lo_asked Lo_ones Lo_sum Lo_wideSize Lo_sumSize Lo_flickers Lo_ready) : wp_X9_wide (fun r Cu_seen_ Cu_all_ Lo_asked_ Lo_ones_ Lo_sum_ Lo_wideSize_ Lo_sumSize_ Lo_flickers_ Lo_ready_ => (r = widF st co E gN sg x1 x2 x3) ∧ jC v pl st co E wa tr tu ch gN sg Pg_letters Pg_size Fl_entries Fl_states Fl_columns Wa_at Fc_tablesRead Wa_turns Wa_changes Fc_unkept Fl_moves Fl_stables Fl_amiss Fl_normal Pt_lessers Pt_greaters Pt_size Lc_signals Lc_size Sc_signals Sc_codes Sc_size Ai_codes Ai_bits Cu_inThrees Lo_asked_ Lo_ones_ Lo_sum_ Lo_wideSize_ Lo_sumSize_ Lo_flickers_ Lo_ready_) Fc_unkept Fl_normal Sc_size Ai_codes Ai_bits Cu_seen Cu_inThrees Cu_all Lo_asked Lo_ones Lo_sum Lo_wideSize Lo_sumSize Lo_flickers Lo_ready x1 x2 x3 := by
  obtain ⟨hJ, hZ, hK, h3, hL⟩ := h
  obtain ⟨hl, rfl, hv⟩ := id hJ
  obtain ⟨rfl, rfl, rfl, rfl, rfl, rfl, hE, hT, hw⟩ := id hZ
  have hs := hT.1
  have hc := hT.2.1
  obtain ⟨hM, hPt, ⟨hLs, rfl⟩, ⟨hG, rfl, hC⟩, rfl, hA⟩ := id hK
  have hp : PN st co E ≤ 75 := Nat.le_trans (PN_63 hT) (by omega)
  have hz := hLs.1
  have hg := hG.1
  obtain ⟨b, hb, rfl⟩ := hA.1
  obtain ⟨rfl, hPv⟩ := id hPt
  exact g_wide hg h3 hM hA hL (fun se al as on sm wd sz fl rd hL => ⟨rfl, hJ, hZ, hK, h3, hL⟩)
theorem n_walk (h : jC v pl st co E wa tr tu ch gN sg Pg_letters Pg_size Fl_entries Fl_states Fl_columns Wa_at Fc_tablesRead Wa_turns Wa_changes Fc_unkept Fl_moves Fl_stables Fl_amiss Fl_normal Pt_lessers Pt_greaters Pt_size Lc_signals Lc_size Sc_signals Sc_codes Sc_size Ai_codes Ai_bits Cu_inThrees Lo_asked Lo_ones Lo_sum Lo_wideSize Lo_sumSize Lo_flickers Lo_ready) : wp_X9_walk (fun r Wa_at_ Wa_turns_ Wa_changes_ => ∃ z1 : AS, WALR v pl st co E wa tr tu ch gN sg x1 r z1 ∧ jCz z1 Pg_letters Pg_size Fl_entries Fl_states Fl_columns Wa_at_ Fc_tablesRead Wa_turns_ Wa_changes_ Fc_unkept Fl_moves Fl_stables Fl_amiss Fl_normal Pt_lessers Pt_greaters Pt_size Lc_signals Lc_size Sc_signals Sc_codes Sc_size Ai_codes Ai_bits Cu_inThrees Lo_asked Lo_ones Lo_sum Lo_wideSize Lo_sumSize Lo_flickers Lo_ready) Fl_states Wa_at Wa_turns Wa_changes x1 := by
  obtain ⟨hJ, hZ, hK, h3, hL⟩ := h
  obtain ⟨hl, rfl, hv⟩ := id hJ
  obtain ⟨rfl, rfl, rfl, rfl, rfl, rfl, hE, hT, hw⟩ := id hZ
  have hs := hT.1
  have hc := hT.2.1
  obtain ⟨hM, hPt, ⟨hLs, rfl⟩, ⟨hG, rfl, hC⟩, rfl, hA⟩ := id hK
  have hp : PN st co E ≤ 75 := Nat.le_trans (PN_63 hT) (by omega)
  have hz := hLs.1
  have hg := hG.1
  obtain ⟨b, hb, rfl⟩ := hA.1
  obtain ⟨rfl, hPv⟩ := id hPt
  exact h_walk hs (fun q => ⟨_, WALR_a q, hJ, hZ, hK, h3, hL⟩) (fun j hj e => ⟨_, WALR_b ⟨j, hj, e⟩, hJ, ⟨rfl, rfl, rfl, rfl, rfl, rfl, hE, hT, Or.inr ⟨j, hj, e⟩⟩, hK, h3, hL⟩)
theorem m_walk (h : jM v pl st co E wa tr tu ch gN sg i_pageLength a_page i_states i_columns a_entries i_signals a_signalAt i_walksAt i_read i_turned i_changed i_partings a_lowSet a_highSet i_leastMany a_leastAt i_laid a_wants i_wide a_wideAsked a_wideOnes i_sum i_flickers a_sumAt) : wp_X10_walk (fun r i_walksAt_ i_turned_ i_changed_ => ∃ z1 : AS, WALR v pl st co E wa tr tu ch gN sg x1 r z1 ∧ jMz z1 i_pageLength a_page i_states i_columns a_entries i_signals a_signalAt i_walksAt_ i_read i_turned_ i_changed_ i_partings a_lowSet a_highSet i_leastMany a_leastAt i_laid a_wants i_wide a_wideAsked a_wideOnes i_sum i_flickers a_sumAt) i_states i_walksAt i_turned i_changed x1 := by
  obtain ⟨hJ, hZ, hK, hs⟩ := h
  obtain ⟨hl, rfl, hv⟩ := id hJ
  obtain ⟨rfl, rfl, rfl, rfl, rfl, rfl, hE, hT, hw⟩ := id hZ
  have hTM := hT.tab hE
  obtain ⟨hPt, ⟨hLs, rfl⟩, hG, rfl⟩ := id hK
  have hp : PN st co E ≤ 75 := Nat.le_trans (PN_63 hT) (by omega)
  have hg := hG.1
  have hm := lmI_M hLs.1
  obtain ⟨rfl, hPv⟩ := id hPt
  exact t_walk hT.1 (fun q => ⟨_, WALR_a q, hJ, hZ, hK, hs⟩) (fun j hj e => ⟨_, WALR_b ⟨j, hj, e⟩, hJ, ⟨rfl, rfl, rfl, rfl, rfl, rfl, hE, hT, Or.inr ⟨j, hj, e⟩⟩, hK, hs⟩)
theorem n_turn (h : jC v pl st co E wa tr tu ch gN sg Pg_letters Pg_size Fl_entries Fl_states Fl_columns Wa_at Fc_tablesRead Wa_turns Wa_changes Fc_unkept Fl_moves Fl_stables Fl_amiss Fl_normal Pt_lessers Pt_greaters Pt_size Lc_signals Lc_size Sc_signals Sc_codes Sc_size Ai_codes Ai_bits Cu_inThrees Lo_asked Lo_ones Lo_sum Lo_wideSize Lo_sumSize Lo_flickers Lo_ready) : wp_X9_turn (fun r Wa_at_ Wa_turns_ Wa_changes_ => ∃ z1 : AS, TURR v pl st co E wa tr tu ch gN sg x1 r z1 ∧ jCz z1 Pg_letters Pg_size Fl_entries Fl_states Fl_columns Wa_at_ Fc_tablesRead Wa_turns_ Wa_changes_ Fc_unkept Fl_moves Fl_stables Fl_amiss Fl_normal Pt_lessers Pt_greaters Pt_size Lc_signals Lc_size Sc_signals Sc_codes Sc_size Ai_codes Ai_bits Cu_inThrees Lo_asked Lo_ones Lo_sum Lo_wideSize Lo_sumSize Lo_flickers Lo_ready) Fl_entries Fl_states Fl_columns Sc_codes Wa_at Wa_turns Wa_changes x1 := by
  obtain ⟨hJ, hZ, hK, h3, hL⟩ := h
  obtain ⟨hl, rfl, hv⟩ := id hJ
  obtain ⟨rfl, rfl, rfl, rfl, rfl, rfl, hE, hT, hw⟩ := id hZ
  have hs := hT.1
  have hc := hT.2.1
  obtain ⟨hM, hPt, ⟨hLs, rfl⟩, ⟨hG, rfl, hC⟩, rfl, hA⟩ := id hK
  have hp : PN st co E ≤ 75 := Nat.le_trans (PN_63 hT) (by omega)
  have hz := hLs.1
  have hg := hG.1
  obtain ⟨b, hb, rfl⟩ := hA.1
  obtain ⟨rfl, hPv⟩ := id hPt
  exact g_turn hT hE hg hC hw (fun q => ⟨_, TURR_a q, hJ, hZ, hK, h3, hL⟩) (fun q e => ⟨_, TURR_b hT.1 q e, hJ, hZ, hK, h3, hL⟩) (fun j k hj hkc e1 e2 => ⟨fun h => ⟨_, TURR_c hT.1 hT.2.1 hj hkc e1 e2 h, hJ, hZ, hK, h3, hL⟩, fun h => ⟨_, TURR_d hT.1 hT.2.1 hj hkc e1 e2 h, hJ, ⟨rfl, rfl, rfl, rfl, rfl, rfl, hE, hT, hT.2.2 j k hj hkc⟩, hK, h3, hL⟩⟩)
theorem m_turn (h : jM v pl st co E wa tr tu ch gN sg i_pageLength a_page i_states i_columns a_entries i_signals a_signalAt i_walksAt i_read i_turned i_changed i_partings a_lowSet a_highSet i_leastMany a_leastAt i_laid a_wants i_wide a_wideAsked a_wideOnes i_sum i_flickers a_sumAt) : wp_X10_turn (fun r i_walksAt_ i_turned_ i_changed_ => ∃ z1 : AS, TURR v pl st co E wa tr tu ch gN sg x1 r z1 ∧ jMz z1 i_pageLength a_page i_states i_columns a_entries i_signals a_signalAt i_walksAt_ i_read i_turned_ i_changed_ i_partings a_lowSet a_highSet i_leastMany a_leastAt i_laid a_wants i_wide a_wideAsked a_wideOnes i_sum i_flickers a_sumAt) i_states i_columns a_entries i_signals a_signalAt i_walksAt i_turned i_changed x1 := by
  obtain ⟨hJ, hZ, hK, hs⟩ := h
  obtain ⟨hl, rfl, hv⟩ := id hJ
  obtain ⟨rfl, rfl, rfl, rfl, rfl, rfl, hE, hT, hw⟩ := id hZ
  have hTM := hT.tab hE
  obtain ⟨hPt, ⟨hLs, rfl⟩, hG, rfl⟩ := id hK
  have hp : PN st co E ≤ 75 := Nat.le_trans (PN_63 hT) (by omega)
  have hg := hG.1
  have hm := lmI_M hLs.1
  obtain ⟨rfl, hPv⟩ := id hPt
  exact r_turn hT hE hG hw (fun q => ⟨_, TURR_a q, hJ, hZ, hK, hs⟩) (fun q e => ⟨_, TURR_b hT.1 q e, hJ, hZ, hK, hs⟩) (fun j k hj hkc e1 e2 => ⟨fun h => ⟨_, TURR_c hT.1 hT.2.1 hj hkc e1 e2 h, hJ, hZ, hK, hs⟩, fun h => ⟨_, TURR_d hT.1 hT.2.1 hj hkc e1 e2 h, hJ, ⟨rfl, rfl, rfl, rfl, rfl, rfl, hE, hT, hT.2.2 j k hj hkc⟩, hK, hs⟩⟩)
theorem n_digest (h : jC v pl st co E wa tr tu ch gN sg Pg_letters Pg_size Fl_entries Fl_states Fl_columns Wa_at Fc_tablesRead Wa_turns Wa_changes Fc_unkept Fl_moves Fl_stables Fl_amiss Fl_normal Pt_lessers Pt_greaters Pt_size Lc_signals Lc_size Sc_signals Sc_codes Sc_size Ai_codes Ai_bits Cu_inThrees Lo_asked Lo_ones Lo_sum Lo_wideSize Lo_sumSize Lo_flickers Lo_ready) : wp_X9_digest (fun r Cu_seen_ Cu_all_ Lo_asked_ Lo_ones_ Lo_sum_ Lo_wideSize_ Lo_sumSize_ Lo_flickers_ Lo_ready_ => jC v pl st co E wa tr tu ch gN sg Pg_letters Pg_size Fl_entries Fl_states Fl_columns Wa_at Fc_tablesRead Wa_turns Wa_changes Fc_unkept Fl_moves Fl_stables Fl_amiss Fl_normal Pt_lessers Pt_greaters Pt_size Lc_signals Lc_size Sc_signals Sc_codes Sc_size Ai_codes Ai_bits Cu_inThrees Lo_asked_ Lo_ones_ Lo_sum_ Lo_wideSize_ Lo_sumSize_ Lo_flickers_ Lo_ready_) Fc_unkept Fc_tablesRead Pg_letters Pg_size Fl_entries Fl_states Fl_columns Fl_moves Fl_stables Fl_amiss Fl_normal Pt_lessers Pt_greaters Pt_size Lc_signals Lc_size Sc_signals Sc_codes Sc_size Ai_codes Ai_bits Cu_seen Cu_inThrees Cu_all Lo_asked Lo_ones Lo_sum Lo_wideSize Lo_sumSize Lo_flickers Lo_ready Wa_at Wa_turns Wa_changes := by
  obtain ⟨hJ, hZ, hK, h3, hL⟩ := h
  obtain ⟨hl, rfl, hv⟩ := id hJ
  obtain ⟨rfl, rfl, rfl, rfl, rfl, rfl, hE, hT, hw⟩ := id hZ
  have hs := hT.1
  have hc := hT.2.1
  obtain ⟨hM, hPt, ⟨hLs, rfl⟩, ⟨hG, rfl, hC⟩, rfl, hA⟩ := id hK
  have hp : PN st co E ≤ 75 := Nat.le_trans (PN_63 hT) (by omega)
  have hz := hLs.1
  have hg := hG.1
  obtain ⟨b, hb, rfl⟩ := hA.1
  obtain ⟨rfl, hPv⟩ := id hPt
  exact g_digest hl hs hc hp hz hg hM hA h3 hL (fun r se al as on sm wd sz fl rd hL => ⟨hJ, hZ, hK, h3, hL⟩)
theorem m_put (h : jM v pl st co E wa tr tu ch gN sg i_pageLength a_page i_states i_columns a_entries i_signals a_signalAt i_walksAt i_read i_turned i_changed i_partings a_lowSet a_highSet i_leastMany a_leastAt i_laid a_wants i_wide a_wideAsked a_wideOnes i_sum i_flickers a_sumAt) : wp_X10_put (fun r i_signals_ a_signalAt_ i_laid_ => ∃ z1 : AS, PUTR v pl st co E wa tr tu ch gN sg x1 r z1 ∧ jMz z1 i_pageLength a_page i_states i_columns a_entries i_signals_ a_signalAt_ i_walksAt i_read i_turned i_changed i_partings a_lowSet a_highSet i_leastMany a_leastAt i_laid_ a_wants i_wide a_wideAsked a_wideOnes i_sum i_flickers a_sumAt) i_states i_columns a_entries i_signals a_signalAt i_laid x1 := by
  obtain ⟨hJ, hZ, hK, hs⟩ := h
  obtain ⟨hl, rfl, hv⟩ := id hJ
  obtain ⟨rfl, rfl, rfl, rfl, rfl, rfl, hE, hT, hw⟩ := id hZ
  have hTM := hT.tab hE
  obtain ⟨hPt, ⟨hLs, rfl⟩, hG, rfl⟩ := id hK
  have hp : PN st co E ≤ 75 := Nat.le_trans (PN_63 hT) (by omega)
  have hg := hG.1
  have hm := lmI_M hLs.1
  obtain ⟨rfl, hPv⟩ := id hPt
  exact r_put hT hE hK (fun n => ⟨_, PUTR_a n, hJ, hZ, hK, hs⟩) (fun n q => ⟨_, PUTR_b n q, hJ, hZ, hK, hs⟩) (fun n q g => ⟨_, PUTR_c n q g, hJ, hZ, hK, hs⟩) (fun n q g gz' ss' hK' => ⟨_, PUTR_d n q g, hJ, hZ, hK', reQ_m hK'.2.2.1.1⟩)
theorem m_clear (h : jM v pl st co E wa tr tu ch gN sg i_pageLength a_page i_states i_columns a_entries i_signals a_signalAt i_walksAt i_read i_turned i_changed i_partings a_lowSet a_highSet i_leastMany a_leastAt i_laid a_wants i_wide a_wideAsked a_wideOnes i_sum i_flickers a_sumAt) : wp_X10_clear (fun r i_signals_ i_laid_ => ∃ z1 : AS, CLRR v pl st co E wa tr tu ch gN sg r z1 ∧ jMz z1 i_pageLength a_page i_states i_columns a_entries i_signals_ a_signalAt i_walksAt i_read i_turned i_changed i_partings a_lowSet a_highSet i_leastMany a_leastAt i_laid_ a_wants i_wide a_wideAsked a_wideOnes i_sum i_flickers a_sumAt) i_states i_columns a_entries i_signals i_laid := by
  obtain ⟨hJ, hZ, hK, hs⟩ := h
  obtain ⟨hl, rfl, hv⟩ := id hJ
  obtain ⟨rfl, rfl, rfl, rfl, rfl, rfl, hE, hT, hw⟩ := id hZ
  have hTM := hT.tab hE
  obtain ⟨hPt, ⟨hLs, rfl⟩, hG, rfl⟩ := id hK
  have hp : PN st co E ≤ 75 := Nat.le_trans (PN_63 hT) (by omega)
  have hg := hG.1
  have hm := lmI_M hLs.1
  obtain ⟨rfl, hPv⟩ := id hPt
  exact r_clear hT hE hK (fun n => ⟨_, CLRR_a n, hJ, hZ, hK, hs⟩) (fun n gz' hK' => ⟨_, CLRR_b n, hJ, hZ, hK', reQ_m hK'.2.2.1.1⟩)
theorem m_logic (h : jM v pl st co E wa tr tu ch gN sg i_pageLength a_page i_states i_columns a_entries i_signals a_signalAt i_walksAt i_read i_turned i_changed i_partings a_lowSet a_highSet i_leastMany a_leastAt i_laid a_wants i_wide a_wideAsked a_wideOnes i_sum i_flickers a_sumAt) : wp_X10_logic (fun r i_laid_ a_wants_ i_wide_ a_wideAsked_ a_wideOnes_ i_sum_ i_flickers_ a_sumAt_ => (r = lgcF st co E gN sg x1 x2) ∧ jM v pl st co E wa tr tu ch gN sg i_pageLength a_page i_states i_columns a_entries i_signals a_signalAt i_walksAt i_read i_turned i_changed i_partings a_lowSet a_highSet i_leastMany a_leastAt i_laid_ a_wants_ i_wide_ a_wideAsked_ a_wideOnes_ i_sum_ i_flickers_ a_sumAt_) i_states i_columns a_entries i_signals a_signalAt i_partings a_lowSet a_highSet i_laid a_wants i_wide a_wideAsked a_wideOnes i_sum i_flickers a_sumAt x1 x2 := by
  obtain ⟨hJ, hZ, hK, hs⟩ := h
  obtain ⟨hl, rfl, hv⟩ := id hJ
  obtain ⟨rfl, rfl, rfl, rfl, rfl, rfl, hE, hT, hw⟩ := id hZ
  have hTM := hT.tab hE
  obtain ⟨hPt, ⟨hLs, rfl⟩, hG, rfl⟩ := id hK
  have hp : PN st co E ≤ 75 := Nat.le_trans (PN_63 hT) (by omega)
  have hg := hG.1
  have hm := lmI_M hLs.1
  obtain ⟨rfl, hPv⟩ := id hPt
  exact r_logic hT hE hPt hG hs (fun ld wv wd wA wO sm fl sa hs => ⟨rfl, hJ, hZ, hK, hs⟩)
theorem m_product (h : jM v pl st co E wa tr tu ch gN sg i_pageLength a_page i_states i_columns a_entries i_signals a_signalAt i_walksAt i_read i_turned i_changed i_partings a_lowSet a_highSet i_leastMany a_leastAt i_laid a_wants i_wide a_wideAsked a_wideOnes i_sum i_flickers a_sumAt) : wp_X10_product (fun r i_laid_ a_wants_ i_wide_ a_wideAsked_ a_wideOnes_ i_sum_ i_flickers_ a_sumAt_ => (r = proF st co E gN sg x1 x2 x3) ∧ jM v pl st co E wa tr tu ch gN sg i_pageLength a_page i_states i_columns a_entries i_signals a_signalAt i_walksAt i_read i_turned i_changed i_partings a_lowSet a_highSet i_leastMany a_leastAt i_laid_ a_wants_ i_wide_ a_wideAsked_ a_wideOnes_ i_sum_ i_flickers_ a_sumAt_) i_states i_columns a_entries i_signals a_signalAt i_partings a_lowSet a_highSet i_laid a_wants i_wide a_wideAsked a_wideOnes i_sum i_flickers a_sumAt x1 x2 x3 := by
  obtain ⟨hJ, hZ, hK, hs⟩ := h
  obtain ⟨hl, rfl, hv⟩ := id hJ
  obtain ⟨rfl, rfl, rfl, rfl, rfl, rfl, hE, hT, hw⟩ := id hZ
  have hTM := hT.tab hE
  obtain ⟨hPt, ⟨hLs, rfl⟩, hG, rfl⟩ := id hK
  have hp : PN st co E ≤ 75 := Nat.le_trans (PN_63 hT) (by omega)
  have hg := hG.1
  have hm := lmI_M hLs.1
  obtain ⟨rfl, hPv⟩ := id hPt
  exact r_product hT hE hPt hG hs (fun ld wv wd wA wO sm fl sa hs => ⟨rfl, hJ, hZ, hK, hs⟩)
theorem m_wide (h : jM v pl st co E wa tr tu ch gN sg i_pageLength a_page i_states i_columns a_entries i_signals a_signalAt i_walksAt i_read i_turned i_changed i_partings a_lowSet a_highSet i_leastMany a_leastAt i_laid a_wants i_wide a_wideAsked a_wideOnes i_sum i_flickers a_sumAt) : wp_X10_wide (fun r i_laid_ a_wants_ i_wide_ a_wideAsked_ a_wideOnes_ i_sum_ i_flickers_ a_sumAt_ => (r = widF st co E gN sg x1 x2 x3) ∧ jM v pl st co E wa tr tu ch gN sg i_pageLength a_page i_states i_columns a_entries i_signals a_signalAt i_walksAt i_read i_turned i_changed i_partings a_lowSet a_highSet i_leastMany a_leastAt i_laid_ a_wants_ i_wide_ a_wideAsked_ a_wideOnes_ i_sum_ i_flickers_ a_sumAt_) i_states i_columns a_entries i_signals a_signalAt i_partings a_lowSet a_highSet i_laid a_wants i_wide a_wideAsked a_wideOnes i_sum i_flickers a_sumAt x1 x2 x3 := by
  obtain ⟨hJ, hZ, hK, hs⟩ := h
  obtain ⟨hl, rfl, hv⟩ := id hJ
  obtain ⟨rfl, rfl, rfl, rfl, rfl, rfl, hE, hT, hw⟩ := id hZ
  have hTM := hT.tab hE
  obtain ⟨hPt, ⟨hLs, rfl⟩, hG, rfl⟩ := id hK
  have hp : PN st co E ≤ 75 := Nat.le_trans (PN_63 hT) (by omega)
  have hg := hG.1
  have hm := lmI_M hLs.1
  obtain ⟨rfl, hPv⟩ := id hPt
  exact r_wide hT hE hPt hG hs (fun ld wv wd wA wO sm fl sa hs => ⟨rfl, hJ, hZ, hK, hs⟩)
theorem m_digest (h : jM v pl st co E wa tr tu ch gN sg i_pageLength a_page i_states i_columns a_entries i_signals a_signalAt i_walksAt i_read i_turned i_changed i_partings a_lowSet a_highSet i_leastMany a_leastAt i_laid a_wants i_wide a_wideAsked a_wideOnes i_sum i_flickers a_sumAt) : wp_X10_digest (fun r i_laid_ a_wants_ i_wide_ a_wideAsked_ a_wideOnes_ i_sum_ i_flickers_ a_sumAt_ j_h_ => jM v pl st co E wa tr tu ch gN sg i_pageLength a_page i_states i_columns a_entries i_signals a_signalAt i_walksAt i_read i_turned i_changed i_partings a_lowSet a_highSet i_leastMany a_leastAt i_laid_ a_wants_ i_wide_ a_wideAsked_ a_wideOnes_ i_sum_ i_flickers_ a_sumAt_) i_pageLength a_page i_states i_columns a_entries i_signals a_signalAt i_walksAt i_turned i_changed i_read i_partings a_lowSet a_highSet i_leastMany a_leastAt i_laid a_wants i_wide a_wideAsked a_wideOnes i_sum i_flickers a_sumAt j_h := by
  obtain ⟨hJ, hZ, hK, hs⟩ := h
  obtain ⟨hl, rfl, hv⟩ := id hJ
  obtain ⟨rfl, rfl, rfl, rfl, rfl, rfl, hE, hT, hw⟩ := id hZ
  have hTM := hT.tab hE
  obtain ⟨hPt, ⟨hLs, rfl⟩, hG, rfl⟩ := id hK
  have hp : PN st co E ≤ 75 := Nat.le_trans (PN_63 hT) (by omega)
  have hg := hG.1
  have hm := lmI_M hLs.1
  obtain ⟨rfl, hPv⟩ := id hPt
  exact r_digest hl hT hE hPt hG hp hm hs (fun r ld wv wd wA wO sm fl sa h hs => ⟨hJ, hZ, hK, hs⟩)
end STEPS
