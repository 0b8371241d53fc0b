/-! the code of the states, what it keeps -/
theorem nI_xor {a b : Nat} : nI a ^^^ nI b = nI (a ^^^ b) := by
  apply Int32.toBitVec_inj.mp
  rw [Int32.toBitVec_xor]
  exact BitVec.ofNat_xor.symm
def cdS (sg : Nat → Int32) (s : Int32) (i : Nat) (a : Int32) : Int32 := a ||| (((sg i >>> (s &&& 31)) &&& (1 : Int32)) <<< (nI i &&& 31))
def cdF (sg : Nat → Int32) (g : Nat) (s : Int32) : Int32 := fo (cdS sg s) g 0
theorem cdF_cg {sg sg2 : Nat → Int32} {g : Nat} {s : Int32} (h : ∀ i, i < g → sg i = sg2 i) : cdF sg g s = cdF sg2 g s := fo_cg (fun i x hi => by unfold cdS; rw [h i hi])
theorem cdF_lt {sg : Nat → Int32} {g : Nat} {s : Int32} (h : g ≤ 5) : ∃ m, m < 2 ^ g ∧ cdF sg g s = nI m := by
  induction g with
  | zero => exact ⟨0, by decide, rfl⟩
  | succ g ih =>
    obtain ⟨m, hm, e⟩ := ih (by omega)
    have hm2 : m < 2 ^ (g + 1) := Nat.lt_of_lt_of_le hm (Nat.pow_le_pow_right (by omega) (by omega))
    obtain ⟨j, hj, ej⟩ := pk_andE (sg g >>> (s &&& 31)) (m := (1 : Int32)) 1 (by decide)
    have e2 : cdF sg (g + 1) s = cdF sg g s ||| (((sg g >>> (s &&& 31)) &&& (1 : Int32)) <<< (nI g &&& 31)) := rfl
    rw [e2, e, ej]
    have hj2 : j = 0 ∨ j = 1 := by omega
    rcases hj2 with q | q
    · refine ⟨m, hm2, ?_⟩
      rw [q, show nI 0 <<< (nI g &&& 31) = nI 0 from by
        have : ∀ g, g < 5 → nI 0 <<< (nI g &&& 31) = nI 0 := by decide +kernel
        exact this g (by omega), nI_or, Nat.or_zero]
    · refine ⟨m ||| 2 ^ g, Nat.or_lt_two_pow hm2 (Nat.pow_lt_pow_right (by omega) (by omega)), ?_⟩
      rw [q, show nI 1 = (1 : Int32) from rfl, sh1 g (by omega), nI_or]
theorem cdF_ne {sg : Nat → Int32} {g : Nat} {s : Int32} (h : g ≤ 5) : ¬ cdF sg g s = -1 := by
  obtain ⟨m, hm, e⟩ := cdF_lt (sg := sg) (s := s) h
  have := p2_5 h
  rw [e]
  exact m1_ne (by omega)
theorem r_codeOf {post : Int32 → Prop} {ss sg : Nat → Int32} {g : Nat} {x1 : Int32} (hg : g ≤ 5) (hS : ∀ i, i < g → ss i = sg i) (H : post (cdF sg g x1)) : wp_X10_codeOf post (nI g) ss x1 := by
  have key : ∀ n i, i ≤ g → g - i < n → w_X10_codeOf_4 (fun x => post x) (nI g) ss x1 n (fo (cdS sg x1) i 0) (nI i) := by
    intro n
    induction n with
    | zero => intro i h1 h2; omega
    | succ n ih =>
      intro i h1 h2
      refine pk_le g i (fun hle => by rw [show i = g by omega]; exact H) (fun h => ⟨pk_in i 5 (by omega), fun a ha b hb => ?_⟩)
      rw [nI_clamp (show i < 2 ^ 31 by omega), hS i h] at ha
      rw [hb, nI_p1, ha]
      exact ih (i + 1) (by omega) (by omega)
  exact ⟨6, key 6 0 (by omega) (by omega)⟩
def cdOK (sg cd : Nat → Int32) (g : Nat) : Prop := ∀ s, s < 6 → cd s = cdF sg g (nI s)
theorem g_empty {post : (Nat → Int32) → Int32 → Prop} {cd : Nat → Int32} {z : Int32} (H : ∀ cd', (∀ s, s < 6 → cd' s = 0) → post cd' (nI 0)) : wp_X7_empty post cd z := by
  have key : ∀ n i c, i ≤ 6 → 6 - i < n → (∀ s, s < i → c s = 0) → w_X7_empty_7 (fun c => post c (0 : Int32)) n (nI i) c := by
    intro n
    induction n with
    | zero => intro i c h1 h2; omega
    | succ n ih =>
      intro i c h1 h2 h3
      refine pk_le 6 i (fun hle => H c (fun s hs => h3 s (by omega))) (fun hlt => ⟨pk_in i 6 (by omega), fun a ha b hb => ?_⟩)
      rw [nI_clamp (show i < 2 ^ 31 by omega)] at ha
      rw [hb, nI_p1]
      refine ih (i + 1) a (by omega) (by omega) (fun s hs => ?_)
      by_cases e : s = i
      · rw [ha, e, pk_us]
      · rw [ha, pk_un e]; exact h3 s (by omega)
  exact ⟨7, key 7 0 cd (by omega) (by omega) (fun s hs => absurd hs (by omega))⟩
theorem g_add {post : Int32 → (Nat → Int32) → (Nat → Int32) → Int32 → Prop} {ss cd : Nat → Int32} {g : Nat} {x : Int32} (hg : g ≤ 5) (H0 : ¬ g < 5 → post 0 ss cd (nI g)) (H1 : g < 5 → ∀ cd', (∀ s, s < 6 → cd' s = cd s ||| (((x >>> (nI s &&& 31)) &&& (1 : Int32)) <<< (nI g &&& 31))) → post 1 (upd ss g x) cd' (nI (g + 1))) : wp_X7_add post ss cd (nI g) x := by
  refine pk_lt g 5 (fun hlt => ⟨pk_in g 5 (by omega), fun a ha => ⟨7, ?_⟩⟩) (fun h => H0 (by omega))
  rw [nI_clamp (show g < 2 ^ 31 by omega)] at ha
  have key : ∀ n i c, i ≤ 6 → 6 - i < n → (∀ s, s < i → c s = cd s ||| (((x >>> (nI s &&& 31)) &&& (1 : Int32)) <<< (nI g &&& 31))) → (∀ s, i ≤ s → c s = cd s) → w_X7_add_22 (fun c => (∀ f_8 : Int32, f_8 = (nI g + (1 : Int32)) → post (1 : Int32) a c f_8)) (nI g) x n (nI i) c := by
    intro n
    induction n with
    | zero => intro i c h1 h2; omega
    | succ n ih =>
      intro i c h1 h2 h3 h4
      refine pk_le 6 i (fun hle f hf => ?_) (fun hlt2 => ⟨pk_in i 6 (by omega), pk_in i 6 (by omega), fun a2 ha2 b hb => ?_⟩)
      · rw [hf, nI_p1, ha]
        exact H1 hlt c (fun s hs => h3 s (by omega))
      · rw [nI_clamp (show i < 2 ^ 31 by omega), h4 i (Nat.le_refl _)] at ha2
        rw [hb, nI_p1 i]
        refine ih (i + 1) a2 (by omega) (by omega) (fun s hs => ?_) (fun s hs => ?_)
        · by_cases e : s = i
          · rw [ha2, e, pk_us]
          · rw [ha2, pk_un e]; exact h3 s (by omega)
        · rw [ha2, pk_un (by omega)]; exact h4 s (by omega)
  exact key 7 0 cd (by omega) (by omega) (fun s hs => absurd hs (by omega)) (fun s _ => rfl)
/-- one signal more -/
def psh (sg : Nat → Int32) (g : Nat) (x : Int32) : Nat → Int32 := fun i => if i = g then x else sg i
theorem psh_cd {sg : Nat → Int32} {g : Nat} {x s : Int32} : cdF (psh sg g x) (g + 1) s = cdF sg g s ||| (((x >>> (s &&& 31)) &&& (1 : Int32)) <<< (nI g &&& 31)) := by
  have e : cdF (psh sg g x) (g + 1) s = cdF (psh sg g x) g s ||| (((psh sg g x g >>> (s &&& 31)) &&& (1 : Int32)) <<< (nI g &&& 31)) := rfl
  rw [e, cdF_cg (sg2 := sg) (fun i hi => by unfold psh; rw [if_neg (by omega)]), show psh sg g x g = x from if_pos rfl]
theorem psh_up {ss sg : Nat → Int32} {g : Nat} {x : Int32} (h : ∀ i, i < g → ss i = sg i) : ∀ i, i < g + 1 → upd ss g x i = psh sg g x i := fun i hi => by
  unfold psh
  by_cases e : i = g
  · rw [e, pk_us, if_pos rfl]
  · rw [pk_un e, if_neg e]; exact h i (by omega)
theorem g_take {post : (Nat → Int32) → (Nat → Int32) → Int32 → Prop} {ls ss cd sg : Nat → Int32} {lz : Nat} {gz : Int32} (hz : lz ≤ 5) (hS : ∀ i, i < lz → ls i = sg i) (H : ∀ ss' cd', (∀ i, i < lz → ss' i = sg i) → cdOK sg cd' lz → post ss' cd' (nI lz)) : wp_X7_take post ls (nI lz) ss cd gz := by
  refine g_empty (fun cd0 h0 => ⟨6, ?_⟩)
  have key : ∀ n i s c, i ≤ lz → lz - i < n → (∀ j, j < i → s j = sg j) → cdOK sg c i → w_X7_take_6 (fun a b c => post a b c) ls (nI lz) n (nI i) s c (nI i) := by
    intro n
    induction n with
    | zero => intro i s c h1 h2; omega
    | succ n ih =>
      intro i s c h1 h2 h3 h4
      refine pk_le lz i (fun hle => ?_) (fun hlt => ⟨pk_in i 5 (by omega), ?_⟩)
      · rw [show i = lz by omega] at h3 h4 ⊢
        exact H s c h3 h4
      · rw [nI_clamp (show i < 2 ^ 31 by omega), hS i hlt]
        refine g_add (by omega) (fun q => absurd q (by omega)) (fun _ c' hc z hz => ?_)
        rw [hz, nI_p1]
        refine ih (i + 1) _ c' (by omega) (by omega) (fun j hj => ?_) (fun s hs => ?_)
        · by_cases e : j = i
          · rw [e, pk_us]
          · rw [pk_un e]; exact h3 j (by omega)
        · rw [hc s hs, h4 s hs]
          rfl
  exact key 6 0 ss cd0 (by omega) (by omega) (fun j hj => absurd hj (by omega)) (fun s hs => h0 s hs)
theorem g_codeOf {post : Int32 → Prop} {sg cd : Nat → Int32} {g s : Nat} (hC : cdOK sg cd g) (hs : s < 6) (H : post (cdF sg g (nI s))) : wp_X7_codeOf post cd (nI s) := by
  refine ⟨fun q => absurd q (nI_pos (by omega)), fun _ => pk_le 6 s (fun q => absurd q (by omega)) (fun _ => ⟨pk_in s 6 hs, ?_⟩)⟩
  rw [nI_clamp (show s < 2 ^ 31 by omega), hC s hs]
  exact H
/-! how many signals keep a parting; how many partings are lost -/
def kbS (sg : Nat → Int32) (a b : Int32) (i : Nat) (n : Int32) : Int32 := if kps (sg i) a b then n + 1 else n
def kbF (sg : Nat → Int32) (g : Nat) (a b : Int32) : Int32 := fo (kbS sg a b) g 0
theorem kbF_cg {sg sg2 : Nat → Int32} {g : Nat} {a b : Int32} (h : ∀ i, i < g → sg i = sg2 i) : kbF sg g a b = kbF sg2 g a b := fo_cg (fun i x hi => by unfold kbS; rw [h i hi])
def loS (sg : Nat → Int32) (g : Nat) (lo hi : Nat → Int32) (p : Nat) (n : Int32) : Int32 := if kbF sg g (lo p) (hi p) = 0 then n + 1 else n
def loF (sg : Nat → Int32) (g : Nat) (lo hi : Nat → Int32) (pn : Nat) : Int32 := fo (loS sg g lo hi) pn 0
theorem loF_cg {sg lo hi lo2 hi2 : Nat → Int32} {g pn : Nat} (h : ∀ p, p < pn → lo p = lo2 p ∧ hi p = hi2 p) : loF sg g lo hi pn = loF sg g lo2 hi2 pn := fo_cg (fun p x hp => by unfold loS; rw [(h p hp).1, (h p hp).2])
theorem g_keepersOf {post : Int32 → Prop} {lo hi ss sg : Nat → Int32} {pn g p : Nat} (hp : pn ≤ 75) (hpp : p < pn) (hg : g ≤ 5) (hS : ∀ i, i < g → ss i = sg i) (H : post (kbF sg g (lo p) (hi p))) : wp_X7_keepersOf post lo hi (nI pn) ss (nI g) (nI p) := by
  have key : ∀ n i, i ≤ g → g - i < n → w_X7_keepersOf_5 (fun x => post x) lo hi (nI pn) ss (nI g) (nI p) n (fo (kbS sg (lo p) (hi p)) i 0) (nI i) := by
    intro n
    induction n with
    | zero => intro i h1 h2; omega
    | succ n ih =>
      intro i h1 h2
      have hr := ih (i + 1)
      rw [fo_s] at hr
      refine pk_le g i (fun hle => by rw [show i = g by omega]; exact H) (fun h => ⟨pk_in i 5 (by omega), ?_⟩)
      have hr := hr (by omega) (by omega)
      rw [nI_clamp (show i < 2 ^ 31 by omega), hS i h]
      unfold kbS at hr
      refine g_isKeptBy hp hpp (fun q => ⟨fun q1 => absurd q1 (by decide), fun _ a ha b hb => ?_⟩) (fun q => ⟨fun _ b hb => ?_, fun q1 => absurd rfl q1⟩)
      · rw [if_pos q] at hr
        rw [hb, nI_p1, ha]
        exact hr
      · rw [if_neg q] at hr
        rw [hb, nI_p1]
        exact hr
  exact ⟨6, key 6 0 (by omega) (by omega)⟩
theorem g_countUnkept {post : Int32 → Prop} {lo hi ss sg : Nat → Int32} {pn g : Nat} (hp : pn ≤ 75) (hg : g ≤ 5) (hS : ∀ i, i < g → ss i = sg i) (H : post (loF sg g lo hi pn)) : wp_X7_countUnkept post lo hi (nI pn) ss (nI g) := by
  have key : ∀ n i, i ≤ pn → pn - i < n → w_X7_countUnkept_4 (fun x => post x) lo hi (nI pn) ss (nI g) n (fo (loS sg g lo hi) i 0) (nI i) := by
    intro n
    induction n with
    | zero => intro i h1 h2; omega
    | succ n ih =>
      intro i h1 h2
      have hr := ih (i + 1)
      rw [fo_s] at hr
      refine pk_le pn i (fun hle => by rw [show i = pn by omega]; exact H) (fun h => g_keepersOf hp h hg hS ?_)
      have hr := hr (by omega) (by omega)
      unfold loS at hr
      refine ⟨fun q a ha b hb => ?_, fun q b hb => ?_⟩
      · rw [if_pos q] at hr
        rw [hb, nI_p1, ha]
        exact hr
      · rw [if_neg q] at hr
        rw [hb, nI_p1]
        exact hr
  exact ⟨76, key 76 0 (by omega) (by omega)⟩
theorem r_keptBy {post : Int32 → Prop} {lo hi ss sg : Nat → Int32} {g p : Nat} (hpp : p < 80) (hg : g ≤ 5) (hS : ∀ i, i < g → ss i = sg i) (H : post (kbF sg g (lo p) (hi p))) : wp_X10_keptBy post (nI g) ss lo hi (nI p) := by
  have hv : vp_in (nI p) 80 := pk_in p 80 hpp
  have key : ∀ n i, i ≤ g → g - i < n → w_X10_keptBy_4 (fun x => post x) (nI g) ss lo hi (nI p) n (fo (kbS sg (lo p) (hi p)) i 0) (nI i) := by
    intro n
    induction n with
    | zero => intro i h1 h2; omega
    | succ n ih =>
      intro i h1 h2
      have hr := ih (i + 1)
      rw [fo_s] at hr
      refine pk_le g i (fun hle => by rw [show i = g by omega]; exact H) (fun h => ⟨pk_in i 5 (by omega), hv, hv, ?_⟩)
      have hr := hr (by omega) (by omega)
      rw [nI_clamp (show i < 2 ^ 31 by omega), nI_clamp (show p < 2 ^ 31 by omega), hS i h]
      unfold kbS at hr
      refine r_keeps (fun q => ⟨fun q1 => absurd q1 (by decide), fun _ a ha b hb => ?_⟩) (fun q => ⟨fun _ a ha b hb => ?_, fun q1 => absurd rfl q1⟩)
      · rw [if_pos q] at hr
        rw [hb, nI_p1, ha]
        exact hr
      · rw [if_neg q] at hr
        rw [hb, nI_p1, ha, Int32.add_zero]
        exact hr
  exact ⟨6, key 6 0 (by omega) (by omega)⟩
theorem r_lost {post : Int32 → Prop} {lo hi ss sg : Nat → Int32} {pn g : Nat} (hp : pn ≤ 75) (hg : g ≤ 5) (hS : ∀ i, i < g → ss i = sg i) (H : post (loF sg g lo hi pn)) : wp_X10_lost post (nI g) ss (nI pn) lo hi := by
  have key : ∀ n i, i ≤ pn → pn - i < n → w_X10_lost_4 (fun x => post x) (nI g) ss (nI pn) lo hi n (fo (loS sg g lo hi) i 0) (nI i) := by
    intro n
    induction n with
    | zero => intro i h1 h2; omega
    | succ n ih =>
      intro i h1 h2
      have hr := ih (i + 1)
      rw [fo_s] at hr
      refine pk_le pn i (fun hle => by rw [show i = pn by omega]; exact H) (fun h => r_keptBy (by omega) hg hS ?_)
      have hr := hr (by omega) (by omega)
      unfold loS at hr
      refine ⟨fun q a ha b hb => ?_, fun q a ha b hb => ?_⟩
      · rw [if_pos q] at hr
        rw [hb, nI_p1, ha]
        exact hr
      · rw [if_neg q] at hr
        rw [hb, nI_p1, ha, Int32.add_zero]
        exact hr
  exact ⟨76, key 76 0 (by omega) (by omega)⟩
