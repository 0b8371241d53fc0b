theorem i_bound {i L : Nat} (hi : i < 2 ^ 30) (hL : L ≤ 2048) (h : ¬ Int32.ofNat L - (4 : Int32) < nI i) : i + 4 ≤ L := by
  rcases Nat.lt_or_ge L 4 with q | q
  · exfalso
    apply h
    have hp : 0 ≤ nI i := nI_pos' (by omega)
    have hz : ∀ k, k < 4 → Int32.ofNat k - (4 : Int32) < 0 := by decide
    exact Int32.lt_of_lt_of_le (hz L q) hp
  · have e : Int32.ofNat L - (4 : Int32) = nI (L - 4) := by
      have : ∃ k, L = k + 4 := ⟨L - 4, by omega⟩
      obtain ⟨k, rfl⟩ := this
      rw [show k + 4 - 4 = k by omega]
      show nI (k + 4) - 4 = nI k
      rw [← nI_add, show nI 4 = (4 : Int32) from rfl]
      exact Int32.add_sub_cancel _ _
    rw [e, nI_ltI (by omega) (by omega)] at h
    omega
set_option maxHeartbeats 4000000 in
set_option maxRecDepth 100000 in
theorem law_loop {p : Program} {l : Launch} {e : Env} {s : State} {m : MethodId} {below : List Frame} {meth : Method} {c : Code} {b L : Nat} {xs : Nat → Int32} {D : va_G} {qC qM : Nat → Nat} {cC cM : Nat → ClassId} {AC AM : Nat → Prop} (C0 : lw_At p s m meth c b L xs) (hN : nwC s) (hKC : va_K D vwCl (tyC cC) s) (hKM : va_K D vwCl (tyM cM) s) (hdis : ∀ a, AC a → ¬ AM a) (hAC : ∀ a, AC a → s.heap.size ≤ a) (hAM : ∀ a, AM a → s.heap.size ≤ a) (hL : L ≤ 2048) :
    ∀ (n i : Nat), i ≤ L + 4 → L + 8 ≤ i + n → ∀ (z : AS) (H : Heap) (locs : List Loc) (ls : Array Slot), iC D qC cC AC z H → iM D qM cM AM z H → va_S (fun a : Nat => s.heap.size ≤ a) s.heap H locs → lv_has ls 4 [(3, .int (nI i)), (2, .ref (qM 0)), (1, .ref (qC 0)), (0, .ref b)] → W p l e room_1 s m #[Value.ref b] below meth c H locs 57 18427 (lw_Z below #[Value.ref b] s) (F0 m 18 ls []) := by
  obtain ⟨hx, hb, hr, hml, hown, hts0, hX, hbl, hlocks, hgv⟩ := id C0
  have hbA : ¬ (fun a : Nat => s.heap.size ≤ a) b := Nat.not_le.mpr hbl
  intro n
  induction n with
  | zero => intro i h1 h2; exact absurd h2 (by omega)
  | succ n ih =>
    intro i h1 h2 z H locs ls hC hM hS hl
    refine lv_iload_n hx hb dL_law_18 rfl (lv_at hl 0 rfl) ?_
    refine lv_aload_n hx hb dL_law_19 rfl (lv_at hl 3 rfl) ?_
    refine va_slen hx hb hX hbl hbA hS dL_law_20 ?_
    refine lv_iconst (v := (4 : Int32)) hx hb dL_law_21 (by decide) ?_
    refine lv_isub hx hb dL_law_22 ?_
    refine lv_icmp_gt (tgt := 624) hx hb dL_law_23 (by decide) (fun _ => ?_) (fun c_1 => ?_)
    · refine lv_iconst (v := 1) hx hb dL_law_624 (by decide) ?_
      refine va_forget (fun q hq => hS.2.2 q hq) ?_
      refine W.widen (k := 600000) (n := 7302250) (Nat.le_of_ble_eq_true rfl) (Nat.le_of_ble_eq_true rfl) ?_
      exact lw_ret hx hb hr hlocks dL_law_625
    · have hi : i + 4 ≤ L := i_bound (by omega) hL c_1
      have kk : ∀ (z : AS) (H : Heap) (locs : List Loc), iC D qC cC AC z H → iM D qM cM AM z H → va_S (fun a : Nat => s.heap.size ≤ a) s.heap H locs → W p l e room_1 s m #[Value.ref b] below meth c H locs 57 18427 (lw_Z below #[Value.ref b] s) (F0 m 618 ls []) := by
        intro z H locs hC hM hS
        refine lv_iinc (v := nI (i + 4)) (lv' := [(3, .int (nI (i + 4))), (2, .ref (qM 0)), (1, .ref (qC 0)), (0, .ref b)]) hx hb dL_law_618 hl (k := 0) rfl (by rw [← nI_add]; rfl) (by decide) rfl (fun ls hl => ?_)
        refine lv_goto (tgt := 18) hx hb dL_law_621 (by decide) ?_
        exact ih (i + 4) (by omega) (by omega) z H locs ls hC hM hS hl
      refine lv_aload_n hx hb dL_law_26 rfl (lv_at hl 3 rfl) ?_
      refine lv_iload_n hx hb dL_law_27 rfl (lv_at hl 0 rfl) ?_
      refine va_sld hx hb hX hbl hbA hS (pk_in i L (by omega)) dL_law_28 ?_
      refine lv_bipush (v := (31 : Int32)) hx hb dL_law_29 (by decide +kernel) ?_
      refine lv_iand hx hb dL_law_31 ?_
      generalize xs (nI i).toNatClampNeg &&& (31 : Int32) = sw
      by_cases e_0 : sw = (0 : Int32)
      · refine sw_in (off := 96) (tgt := 128) hx hb dL_law_32 e_0 (by decide) (by decide) rfl (by decide) ?_
        exact law_0 C0 hN hKC hKM hdis hAC hAM hi hL hl kk hC hM hS
      by_cases e_1 : sw = (1 : Int32)
      · refine sw_in (off := 119) (tgt := 151) hx hb dL_law_32 e_1 (by decide) (by decide) rfl (by decide) ?_
        exact law_1 C0 hN hKC hKM hdis hAC hAM hi hL hl kk hC hM hS
      by_cases e_2 : sw = (2 : Int32)
      · refine sw_in (off := 132) (tgt := 164) hx hb dL_law_32 e_2 (by decide) (by decide) rfl (by decide) ?_
        exact law_2 C0 hN hKC hKM hdis hAC hAM hi hL hl kk hC hM hS
      by_cases e_3 : sw = (3 : Int32)
      · refine sw_in (off := 145) (tgt := 177) hx hb dL_law_32 e_3 (by decide) (by decide) rfl (by decide) ?_
        exact law_3 C0 hN hKC hKM hdis hAC hAM hi hL hl kk hC hM hS
      by_cases e_4 : sw = (4 : Int32)
      · refine sw_in (off := 158) (tgt := 190) hx hb dL_law_32 e_4 (by decide) (by decide) rfl (by decide) ?_
        exact law_4 C0 hN hKC hKM hdis hAC hAM hi hL hl kk hC hM hS
      by_cases e_5 : sw = (5 : Int32)
      · refine sw_in (off := 191) (tgt := 223) hx hb dL_law_32 e_5 (by decide) (by decide) rfl (by decide) ?_
        exact law_5 C0 hN hKC hKM hdis hAC hAM hi hL hl kk hC hM hS
      by_cases e_6 : sw = (6 : Int32)
      · refine sw_in (off := 214) (tgt := 246) hx hb dL_law_32 e_6 (by decide) (by decide) rfl (by decide) ?_
        exact law_6 C0 hN hKC hKM hdis hAC hAM hi hL hl kk hC hM hS
      by_cases e_7 : sw = (7 : Int32)
      · refine sw_in (off := 247) (tgt := 279) hx hb dL_law_32 e_7 (by decide) (by decide) rfl (by decide) ?_
        exact law_7 C0 hN hKC hKM hdis hAC hAM hi hL hl kk hC hM hS
      by_cases e_8 : sw = (8 : Int32)
      · refine sw_in (off := 270) (tgt := 302) hx hb dL_law_32 e_8 (by decide) (by decide) rfl (by decide) ?_
        exact law_8 C0 hN hKC hKM hdis hAC hAM hi hL hl kk hC hM hS
      by_cases e_9 : sw = (9 : Int32)
      · refine sw_in (off := 293) (tgt := 325) hx hb dL_law_32 e_9 (by decide) (by decide) rfl (by decide) ?_
        exact law_9 C0 hN hKC hKM hdis hAC hAM hi hL hl kk hC hM hS
      by_cases e_10 : sw = (10 : Int32)
      · refine sw_in (off := 306) (tgt := 338) hx hb dL_law_32 e_10 (by decide) (by decide) rfl (by decide) ?_
        exact law_10 C0 hN hKC hKM hdis hAC hAM hi hL hl kk hC hM hS
      by_cases e_11 : sw = (11 : Int32)
      · refine sw_in (off := 329) (tgt := 361) hx hb dL_law_32 e_11 (by decide) (by decide) rfl (by decide) ?_
        exact law_11 C0 hN hKC hKM hdis hAC hAM hi hL hl kk hC hM hS
      by_cases e_12 : sw = (12 : Int32)
      · refine sw_in (off := 352) (tgt := 384) hx hb dL_law_32 e_12 (by decide) (by decide) rfl (by decide) ?_
        exact law_12 C0 hN hKC hKM hdis hAC hAM hi hL hl kk hC hM hS
      by_cases e_13 : sw = (13 : Int32)
      · refine sw_in (off := 385) (tgt := 417) hx hb dL_law_32 e_13 (by decide) (by decide) rfl (by decide) ?_
        exact law_13 C0 hN hKC hKM hdis hAC hAM hi hL hl kk hC hM hS
      by_cases e_14 : sw = (14 : Int32)
      · refine sw_in (off := 418) (tgt := 450) hx hb dL_law_32 e_14 (by decide) (by decide) rfl (by decide) ?_
        exact law_14 C0 hN hKC hKM hdis hAC hAM hi hL hl kk hC hM hS
      by_cases e_15 : sw = (15 : Int32)
      · refine sw_in (off := 461) (tgt := 493) hx hb dL_law_32 e_15 (by decide) (by decide) rfl (by decide) ?_
        exact law_15 C0 hN hKC hKM hdis hAC hAM hi hL hl kk hC hM hS
      by_cases e_16 : sw = (16 : Int32)
      · refine sw_in (off := 504) (tgt := 536) hx hb dL_law_32 e_16 (by decide) (by decide) rfl (by decide) ?_
        exact law_16 C0 hN hKC hKM hdis hAC hAM hi hL hl kk hC hM hS
      by_cases e_17 : sw = (17 : Int32)
      · refine sw_in (off := 527) (tgt := 559) hx hb dL_law_32 e_17 (by decide) (by decide) rfl (by decide) ?_
        exact law_17 C0 hN hKC hKM hdis hAC hAM hi hL hl kk hC hM hS
      by_cases e_18 : sw = (18 : Int32)
      · refine sw_in (off := 550) (tgt := 582) hx hb dL_law_32 e_18 (by decide) (by decide) rfl (by decide) ?_
        exact law_18 C0 hN hKC hKM hdis hAC hAM hi hL hl kk hC hM hS
      by_cases e_19 : sw = (19 : Int32)
      · refine sw_in (off := 573) (tgt := 605) hx hb dL_law_32 e_19 (by decide) (by decide) rfl (by decide) ?_
        exact law_19 C0 hN hKC hKM hdis hAC hAM hi hL hl kk hC hM hS
      refine lv_tableOut (tgt := 618) hx hb dL_law_32 (by have q0 := lv_neT e_0 (a := 0) (by decide); have q1 := lv_neT e_1 (a := 1) (by decide); have q2 := lv_neT e_2 (a := 2) (by decide); have q3 := lv_neT e_3 (a := 3) (by decide); have q4 := lv_neT e_4 (a := 4) (by decide); have q5 := lv_neT e_5 (a := 5) (by decide); have q6 := lv_neT e_6 (a := 6) (by decide); have q7 := lv_neT e_7 (a := 7) (by decide); have q8 := lv_neT e_8 (a := 8) (by decide); have q9 := lv_neT e_9 (a := 9) (by decide); have q10 := lv_neT e_10 (a := 10) (by decide); have q11 := lv_neT e_11 (a := 11) (by decide); have q12 := lv_neT e_12 (a := 12) (by decide); have q13 := lv_neT e_13 (a := 13) (by decide); have q14 := lv_neT e_14 (a := 14) (by decide); have q15 := lv_neT e_15 (a := 15) (by decide); have q16 := lv_neT e_16 (a := 16) (by decide); have q17 := lv_neT e_17 (a := 17) (by decide); have q18 := lv_neT e_18 (a := 18) (by decide); have q19 := lv_neT e_19 (a := 19) (by decide); omega) (by decide) ?_
      exact kk z H locs hC hM hS
set_option maxHeartbeats 4000000 in
set_option maxRecDepth 100000 in
theorem whole_start {p : Program} {e : Env} {s : State} {m : MethodId} {below : List Frame} {meth : Method} {c : Code} (l : Launch) (hflags : l.flags = flags0) {b L : Nat} {xs : Nat → Int32} (hL : L ≤ 2048) (C0 : lw_At p s m meth c b L xs) : W p l e room_1 s m #[Value.ref b] below meth c s.heap [] 0 0 (lw_Z below #[Value.ref b] s) (entryFrame m ([Value.ref b] : List Value).toArray 4) := by
  obtain ⟨hx, hb, hr, hml, hown, hts0, hX, hbl, hlocks, hgv⟩ := id C0
  have hts : ∀ w ∈ wsL_law, w.before #[Value.ref b] s = true := fun w h => hts0 w (wsL_law_in w h)
  have hN : nwC s := nwC_of hts0
  have hAO : va_AO "FlowCodes$Logic" s := va_AO.of (hts0 _ ao_in)
  have hA : ∀ q : Nat, s.heap.size ≤ q → (fun a : Nat => s.heap.size ≤ a) q := fun _ h => h
  have hbA : ¬ (fun a : Nat => s.heap.size ≤ a) b := Nat.not_le.mpr hbl
  obtain ⟨c0, iS0, hKn0⟩ := u_known (C := RX0) (T := TX0) (N := 2) (n := 2) hts in_wsX00 (hts _ (inr2 _ (List.mem_of_getElem? (i := 9) rfl)))
  obtain ⟨c1, iS1, hKn1⟩ := u_known (C := RX1) (T := TX1) (N := 3) (n := 3) hts in_wsX10 (hts _ (inr2 _ (List.mem_of_getElem? (i := 13) rfl)))
  obtain ⟨c2, iS2, hKn2⟩ := u_known (C := RX2) (T := TX2) (N := 7) (n := 7) hts in_wsX20 (hts _ (inr1 _ (List.mem_of_getElem? (i := 17) rfl)))
  obtain ⟨c3, iS3, hKn3⟩ := u_known (C := RX3) (T := TX3) (N := 5) (n := 5) hts in_wsX30 (hts _ (inr2 _ (List.mem_of_getElem? (i := 1) rfl)))
  obtain ⟨c4, iS4, hKn4⟩ := u_known (C := RX4) (T := TX4) (N := 7) (n := 7) hts in_wsX40 (hts _ (inr2 _ (List.mem_of_getElem? (i := 18) rfl)))
  obtain ⟨c5, iS5, hKn5⟩ := u_known (C := RX5) (T := TX5) (N := 6) (n := 6) hts in_wsX50 (hts _ (inr1 _ (List.mem_of_getElem? (i := 13) rfl)))
  obtain ⟨c6, iS6, hKn6⟩ := u_known (C := RX6) (T := TX6) (N := 3) (n := 3) hts in_wsX60 (hts _ (inr1 _ (List.mem_of_getElem? (i := 21) rfl)))
  obtain ⟨c7, iS7, hKn7⟩ := u_known (C := RX7) (T := TX7) (N := 3) (n := 3) hts in_wsX70 (hts _ (inr2 _ (List.mem_of_getElem? (i := 5) rfl)))
  obtain ⟨c8, iS8, hKn8⟩ := u_known (C := RX8) (T := TX8) (N := 3) (n := 3) hts in_wsX80 (hts _ (inr2 _ (List.mem_of_getElem? (i := 21) rfl)))
  obtain ⟨c9, iS9, hKn9⟩ := u_known (C := RX9) (T := TX9) (N := 11) (n := 11) hts in_wsX90 (hts _ (inr1 _ (List.mem_of_getElem? (i := 1) rfl)))
  obtain ⟨c10, iS10, hKn10⟩ := u_known (C := RX10) (T := TX10) (N := 33) (n := 33) hts in_wsX100 (hts _ (inr1 _ (List.mem_of_getElem? (i := 4) rfl)))
  obtain ⟨D, hKc⟩ : ∃ D : va_G, ∀ (k : Nat) (q : vw_C), vwCl[k]? = some q → u_Kn s q.1 q.2.1 q.2.2 (D.1 k) (D.2 k) := by
    refine ⟨(fun k => [c0, c1, c2, c3, c4, c5, c6, c7, c8, c9, c10].getD k c0, fun k => [iS0, iS1, iS2, iS3, iS4, iS5, iS6, iS7, iS8, iS9, iS10].getD k iS0), ?_⟩
    intro k q hq
    match k, hq with
    | 0, hq => cases hq; exact hKn0
    | 1, hq => cases hq; exact hKn1
    | 2, hq => cases hq; exact hKn2
    | 3, hq => cases hq; exact hKn3
    | 4, hq => cases hq; exact hKn4
    | 5, hq => cases hq; exact hKn5
    | 6, hq => cases hq; exact hKn6
    | 7, hq => cases hq; exact hKn7
    | 8, hq => cases hq; exact hKn8
    | 9, hq => cases hq; exact hKn9
    | 10, hq => cases hq; exact hKn10
    | k + 11, hq => cases hq
  have hS : va_S (fun a : Nat => s.heap.size ≤ a) s.heap s.heap [] := va_S.rf
  have hK : va_K D vwCl [] s := ⟨hKc, fun k q h => by simp at h⟩
  have hP : va_P D vwCl [] s.heap := fun k q h => by simp at h
  have hD : va_D (fun a : Nat => s.heap.size ≤ a) [] := ⟨fun i j p q h => by simp at h, fun k q h => by simp at h⟩
  have hl := lv_entry ([.ref b]) (n := 4) (Nat.le_of_ble_eq_true rfl)
  rw [lg_entry_eq]
  generalize (lg_sl ([.ref b]) ++ List.replicate (4 - (lg_sl ([.ref b])).length) Slot.unset).toArray = ls at hl ⊢
  have hl : lv_has ls 4 [(0, .ref b)] := hl
  refine va_new (ci := 9) (fs := [.null, .null, .null, .null, .null, .null, .null, .null, .null, .int 0, .int 0]) (C := RX9) (T := TX9) (N := 11) hx hb hts in_wsX90 tyX9 tyX9_ok hown (hts _ (inr1 _ (List.mem_of_getElem? (i := 0) rfl))) (hts _ (inr1 _ (List.mem_of_getElem? (i := 1) rfl))) (hts _ (inr1 _ (List.mem_of_getElem? (i := 2) rfl))) hK hP hD hS hA rfl (fun j hj => by rcases (show j = 0 ∨ j = 1 ∨ j = 2 ∨ j = 3 ∨ j = 4 ∨ j = 5 ∨ j = 6 ∨ j = 7 ∨ j = 8 ∨ j = 9 ∨ j = 10 by omega) with rfl | rfl | rfl | rfl | rfl | rfl | rfl | rfl | rfl | rfl | rfl <;> rfl) (Nat.le_of_ble_eq_true rfl) (Nat.le_of_ble_eq_true rfl) dL_law_0 (fun o1 H hP hD hS => ?_)
  refine W.widen (k := 1) (n := 11) (Nat.le_of_ble_eq_true rfl) (Nat.le_of_ble_eq_true rfl) ?_
  refine lv_dup hx hb dL_law_3 rfl ?_
  have hP : va_P D vwCl [(o1, .inr (9, [.null, .null, .null, .null, .null, .null, .null, .null, .null, .int 0, .int 0]))] H := hP
  have hD : va_D (fun a : Nat => s.heap.size ≤ a) [(o1, .inr (9, [.null, .null, .null, .null, .null, .null, .null, .null, .null, .int 0, .int 0]))] := hD
  have hPc := hP
  have hDc := hD
  have hKc0 := hK
  have hFc := va_free (wc := [(o1, .inr (9, [.null, .null, .null, .null, .null, .null, .null, .null, .null, .int 0, .int 0]))]) hD hS hA [0] rfl
  refine va_callv (va_runI (As := []) (rest := [.ref o1]) ⟨hx, hb, hml, hown, hts⟩ (i_X9 l D o1 H.size) (cwI 0 hts (good_in (inr1 _ (List.mem_of_getElem? (i := 8) rfl))) rfl rfl rfl (hts _ (inr1 _ (List.mem_of_getElem? (i := 2) rfl))) (hts _ (inr1 _ (List.mem_of_getElem? (i := 6) rfl))) (hts _ (inr1 _ (List.mem_of_getElem? (i := 7) rfl))) rfl (by decide +kernel) ⟨Nat.le_of_ble_eq_true rfl, Nat.le_of_ble_eq_true rfl⟩) ⟨fun a U g mk q => by obtain ⟨q0, q1, qP, qK, qD, qA⟩ := q; exact ⟨q0, q1, qP, va_K.moved (u := U) (U := U.calling g mk a) (Vm.Alike.refl U.vm) qK, qD, va_AO.moved (u := U) (U := U.calling g mk a) (Vm.Alike.refl U.vm) qA⟩, fun U hU hW => ⟨rfl, by rw [hU], by rw [hU]; exact hPc, va_K.moved hW.alike hKc0, hDc.weaken (fun _ _ _ _ => trivial), va_AO.moved hW.alike hAO⟩⟩ rfl rfl hl.1 rfl (lv_room (Nat.le_of_ble_eq_true rfl)) dL_law_4 ⟨Nat.le_of_ble_eq_true rfl, Nat.le_of_ble_eq_true rfl⟩) hS (fun q _ h => hFc q h) hFc (fun u t H1 locs ht hvm _ hB hz1 hk1 hS => ?_)
  obtain ⟨qC, cC, f3, e0, h3, hP1, hK1, hD1⟩ := hB
  rw [ht] at hP1
  have hKC := va_K.moved hvm.symm hK1
  obtain ⟨hP, hD⟩ := va_join (wr := []) (w1 := wC qC cC 0 0 (fun _ => 0) 0 0 0 0 0 (fun _ => 0) 0 0 0 0 (-1) 0 (fun _ => 0) (fun _ => 0) 0 (fun _ => 0) (fun _ => 0) (fun _ => 0) 0 0 (fun _ => 0) (fun _ => 0) 0 (fun _ => 0) 0 (fun _ => 0) f3 0 (fun _ _ => 0) (fun _ _ => 0) (fun _ _ => 0) (fun _ => 0) (fun _ => 0) (fun _ => 0) (fun _ => 0) (-1) 0 0) hP hD [0] [] rfl rfl (by decide) (by decide) hk1 hFc hP1 hD1
  generalize H1 = H at hP hS ⊢
  have hP : va_P D vwCl (wC qC cC 0 0 (fun _ => 0) 0 0 0 0 0 (fun _ => 0) 0 0 0 0 (-1) 0 (fun _ => 0) (fun _ => 0) 0 (fun _ => 0) (fun _ => 0) (fun _ => 0) 0 0 (fun _ => 0) (fun _ => 0) 0 (fun _ => 0) 0 (fun _ => 0) f3 0 (fun _ _ => 0) (fun _ _ => 0) (fun _ _ => 0) (fun _ => 0) (fun _ => 0) (fun _ => 0) (fun _ => 0) (-1) 0 0) H := hP
  have hD : va_D (fun a : Nat => s.heap.size ≤ a) (wC qC cC 0 0 (fun _ => 0) 0 0 0 0 0 (fun _ => 0) 0 0 0 0 (-1) 0 (fun _ => 0) (fun _ => 0) 0 (fun _ => 0) (fun _ => 0) (fun _ => 0) 0 0 (fun _ => 0) (fun _ => 0) 0 (fun _ => 0) 0 (fun _ => 0) f3 0 (fun _ _ => 0) (fun _ _ => 0) (fun _ _ => 0) (fun _ => 0) (fun _ => 0) (fun _ => 0) (fun _ => 0) (-1) 0 0) := hD
  refine W.widen (k := 42) (n := 12901) (Nat.le_of_ble_eq_true rfl) (Nat.le_of_ble_eq_true rfl) ?_
  refine lv_astore_n (lv' := [(1, .ref o1), (0, .ref b)]) hx hb dL_law_7 rfl hl (by decide) rfl (fun ls hl => ?_)
  refine va_new (ci := 10) (fs := [.int 0, .null, .int 0, .int 0, .null, .int 0, .null, .int 0, .int 0, .int 0, .int 0, .int 0, .int 0, .int 0, .int 0, .null, .int 0, .null, .null, .int 0, .null, .null, .null, .null, .int 0, .null, .int 0, .null, .null, .int 0, .int 0, .null, .long 0]) (C := RX10) (T := TX10) (N := 33) hx hb hts in_wsX100 tyX10 tyX10_ok hown (hts _ (inr1 _ (List.mem_of_getElem? (i := 3) rfl))) (hts _ (inr1 _ (List.mem_of_getElem? (i := 4) rfl))) (hts _ (inr1 _ (List.mem_of_getElem? (i := 5) rfl))) hK hP hD hS hA rfl (fun j hj => by rcases (show j = 0 ∨ j = 1 ∨ j = 2 ∨ j = 3 ∨ j = 4 ∨ j = 5 ∨ j = 6 ∨ j = 7 ∨ j = 8 ∨ j = 9 ∨ j = 10 ∨ j = 11 ∨ j = 12 ∨ j = 13 ∨ j = 14 ∨ j = 15 ∨ j = 16 ∨ j = 17 ∨ j = 18 ∨ j = 19 ∨ j = 20 ∨ j = 21 ∨ j = 22 ∨ j = 23 ∨ j = 24 ∨ j = 25 ∨ j = 26 ∨ j = 27 ∨ j = 28 ∨ j = 29 ∨ j = 30 ∨ j = 31 ∨ j = 32 by omega) with rfl | rfl | rfl | rfl | rfl | rfl | rfl | rfl | rfl | rfl | rfl | rfl | rfl | rfl | rfl | rfl | rfl | rfl | rfl | rfl | rfl | rfl | rfl | rfl | rfl | rfl | rfl | rfl | rfl | rfl | rfl | rfl | rfl <;> rfl) (Nat.le_of_ble_eq_true rfl) (Nat.le_of_ble_eq_true rfl) dL_law_8 (fun o2 H hP hD hS => ?_)
  refine W.widen (k := 43) (n := 12934) (Nat.le_of_ble_eq_true rfl) (Nat.le_of_ble_eq_true rfl) ?_
  refine lv_dup hx hb dL_law_11 rfl ?_
  have hP : va_P D vwCl (wC qC cC 0 0 (fun _ => 0) 0 0 0 0 0 (fun _ => 0) 0 0 0 0 (-1) 0 (fun _ => 0) (fun _ => 0) 0 (fun _ => 0) (fun _ => 0) (fun _ => 0) 0 0 (fun _ => 0) (fun _ => 0) 0 (fun _ => 0) 0 (fun _ => 0) f3 0 (fun _ _ => 0) (fun _ _ => 0) (fun _ _ => 0) (fun _ => 0) (fun _ => 0) (fun _ => 0) (fun _ => 0) (-1) 0 0 ++ [(o2, .inr (10, [.int 0, .null, .int 0, .int 0, .null, .int 0, .null, .int 0, .int 0, .int 0, .int 0, .int 0, .int 0, .int 0, .int 0, .null, .int 0, .null, .null, .int 0, .null, .null, .null, .null, .int 0, .null, .int 0, .null, .null, .int 0, .int 0, .null, .long 0]))]) H := hP
  have hD : va_D (fun a : Nat => s.heap.size ≤ a) (wC qC cC 0 0 (fun _ => 0) 0 0 0 0 0 (fun _ => 0) 0 0 0 0 (-1) 0 (fun _ => 0) (fun _ => 0) 0 (fun _ => 0) (fun _ => 0) (fun _ => 0) 0 0 (fun _ => 0) (fun _ => 0) 0 (fun _ => 0) 0 (fun _ => 0) f3 0 (fun _ _ => 0) (fun _ _ => 0) (fun _ _ => 0) (fun _ => 0) (fun _ => 0) (fun _ => 0) (fun _ => 0) (-1) 0 0 ++ [(o2, .inr (10, [.int 0, .null, .int 0, .int 0, .null, .int 0, .null, .int 0, .int 0, .int 0, .int 0, .int 0, .int 0, .int 0, .int 0, .null, .int 0, .null, .null, .int 0, .null, .null, .null, .null, .int 0, .null, .int 0, .null, .null, .int 0, .int 0, .null, .long 0]))]) := hD
  have hPc := hP.sub (ws' := [(o2, .inr (10, [.int 0, .null, .int 0, .int 0, .null, .int 0, .null, .int 0, .int 0, .int 0, .int 0, .int 0, .int 0, .int 0, .int 0, .null, .int 0, .null, .null, .int 0, .null, .null, .null, .null, .int 0, .null, .int 0, .null, .null, .int 0, .int 0, .null, .long 0]))]) [42] rfl
  have hDc := hD.sub (ws' := [(o2, .inr (10, [.int 0, .null, .int 0, .int 0, .null, .int 0, .null, .int 0, .int 0, .int 0, .int 0, .int 0, .int 0, .int 0, .int 0, .null, .int 0, .null, .null, .int 0, .null, .null, .null, .null, .int 0, .null, .int 0, .null, .null, .int 0, .int 0, .null, .long 0]))]) [42] (by decide) rfl
  have hFc := va_free (wc := [(o2, .inr (10, [.int 0, .null, .int 0, .int 0, .null, .int 0, .null, .int 0, .int 0, .int 0, .int 0, .int 0, .int 0, .int 0, .int 0, .null, .int 0, .null, .null, .int 0, .null, .null, .null, .null, .int 0, .null, .int 0, .null, .null, .int 0, .int 0, .null, .long 0]))]) hD hS hA [42] rfl
  refine va_callv (va_runI (As := []) (rest := [.ref o2]) ⟨hx, hb, hml, hown, hts⟩ (i_X10 l D o2 H.size) (cwI 0 hts (good_in (inr5 _ (List.mem_of_getElem? (i := 13) rfl))) rfl rfl rfl (hts _ (inr1 _ (List.mem_of_getElem? (i := 5) rfl))) (hts _ (inr5 _ (List.mem_of_getElem? (i := 11) rfl))) (hts _ (inr5 _ (List.mem_of_getElem? (i := 12) rfl))) rfl (by decide +kernel) ⟨Nat.le_of_ble_eq_true rfl, Nat.le_of_ble_eq_true rfl⟩) ⟨fun a U g mk q => by obtain ⟨q0, q1, qP, qK, qD⟩ := q; exact ⟨q0, q1, qP, va_K.moved (u := U) (U := U.calling g mk a) (Vm.Alike.refl U.vm) qK, qD⟩, fun U hU hW => ⟨rfl, by rw [hU], by rw [hU]; exact hPc, va_K.moved hW.alike hKc0, hDc.weaken (fun _ _ _ _ => trivial)⟩⟩ rfl rfl hl.1 rfl (lv_room (Nat.le_of_ble_eq_true rfl)) dL_law_12 ⟨Nat.le_of_ble_eq_true rfl, Nat.le_of_ble_eq_true rfl⟩) hS (fun q _ h => hFc q h) hFc (fun u t H1 locs ht hvm _ hB hz1 hk1 hS => ?_)
  obtain ⟨q1, d1, q2, d2, q3, d3, q4, d4, q5, d5, q6, d6, q7, d7, q8, d8, q9, d9, q10, d10, q11, d11, q12, d12, q13, d13, q14, d14, hP1, hK1, hD1⟩ := hB
  rw [ht] at hP1
  have hK1 := va_K.moved hvm.symm hK1
  obtain ⟨qM, eqM⟩ : ∃ z : Nat → Nat, z = (fun k => [o2, q1, q2, q3, q4, q5, q6, q7, q8, q9, q10, q11, q12, q13, q14].getD k 0) := ⟨_, rfl⟩
  obtain ⟨cM, ecM⟩ : ∃ z : Nat → ClassId, z = (fun k => [d1, d1, d2, d3, d4, d5, d6, d7, d8, d9, d10, d11, d12, d13, d14].getD k d1) := ⟨_, rfl⟩
  have hP1 : va_P D vwCl (wM qM cM 0 (fun _ => 0) 0 0 (fun _ => 0) 0 (fun _ => 0) (-1) 0 0 0 0 0 0 0 (fun _ => 0) 0 (fun _ => 0) (fun _ => 0) (-1) (fun _ => 0) (fun _ => 0) (fun _ => 0) (fun _ => 0) 0 (fun _ => 0) 0 (fun _ => 0) (fun _ => 0) 0 0 (fun _ => 0) 0) H1 := by rw [eqM, ecM]; exact hP1
  have hD1 : va_D (va_A [(o2, .inr (10, [.int 0, .null, .int 0, .int 0, .null, .int 0, .null, .int 0, .int 0, .int 0, .int 0, .int 0, .int 0, .int 0, .int 0, .null, .int 0, .null, .null, .int 0, .null, .null, .null, .null, .int 0, .null, .int 0, .null, .null, .int 0, .int 0, .null, .long 0]))] H.size) (wM qM cM 0 (fun _ => 0) 0 0 (fun _ => 0) 0 (fun _ => 0) (-1) 0 0 0 0 0 0 0 (fun _ => 0) 0 (fun _ => 0) (fun _ => 0) (-1) (fun _ => 0) (fun _ => 0) (fun _ => 0) (fun _ => 0) 0 (fun _ => 0) 0 (fun _ => 0) (fun _ => 0) 0 0 (fun _ => 0) 0) := by rw [eqM, ecM]; exact hD1
  have hKM : va_K D vwCl (tyM cM) s := by rw [ecM]; exact hK1
  have e2 : o2 = qM 0 := by rw [eqM]; rfl
  obtain ⟨hP, hD⟩ := va_join (wr := wC qC cC 0 0 (fun _ => 0) 0 0 0 0 0 (fun _ => 0) 0 0 0 0 (-1) 0 (fun _ => 0) (fun _ => 0) 0 (fun _ => 0) (fun _ => 0) (fun _ => 0) 0 0 (fun _ => 0) (fun _ => 0) 0 (fun _ => 0) 0 (fun _ => 0) f3 0 (fun _ _ => 0) (fun _ _ => 0) (fun _ _ => 0) (fun _ => 0) (fun _ => 0) (fun _ => 0) (fun _ => 0) (-1) 0 0) (w1 := wM qM cM 0 (fun _ => 0) 0 0 (fun _ => 0) 0 (fun _ => 0) (-1) 0 0 0 0 0 0 0 (fun _ => 0) 0 (fun _ => 0) (fun _ => 0) (-1) (fun _ => 0) (fun _ => 0) (fun _ => 0) (fun _ => 0) 0 (fun _ => 0) 0 (fun _ => 0) (fun _ => 0) 0 0 (fun _ => 0) 0) hP hD [42] [0, 1, 2, 3, 4, 5, 6, 7, 8, 9, 10, 11, 12, 13, 14, 15, 16, 17, 18, 19, 20, 21, 22, 23, 24, 25, 26, 27, 28, 29, 30, 31, 32, 33, 34, 35, 36, 37, 38, 39, 40, 41] rfl rfl (by decide) (by decide) hk1 hFc hP1 hD1
  generalize H1 = H at hP hS ⊢
  refine W.widen (k := 57) (n := 18427) (Nat.le_of_ble_eq_true rfl) (Nat.le_of_ble_eq_true rfl) ?_
  refine lv_astore_n (lv' := [(2, .ref o2), (1, .ref o1), (0, .ref b)]) hx hb dL_law_15 rfl hl (by decide) rfl (fun ls hl => ?_)
  refine lv_iconst (v := (0 : Int32)) hx hb dL_law_16 (by decide) ?_
  refine lv_istore_n (lv' := [(3, .int (0 : Int32)), (2, .ref o2), (1, .ref o1), (0, .ref b)]) hx hb dL_law_17 rfl hl (by decide) rfl (fun ls hl => ?_)
  rw [e2, ← e0] at hl
  exact law_loop C0 hN hKC hKM (aW_dis hD) (aW_inL hD) (aW_inR hD) hL (L + 8) 0 (by omega) (by omega) ((fun _ => 0), 0, 0, 0, (fun _ _ => 0), -1, 0, 0, 0, 0, (fun _ => 0)) _ _ ls ⟨0, 0, (fun _ => 0), 0, 0, 0, 0, 0, (fun _ => 0), 0, 0, 0, 0, -1, 0, (fun _ => 0), (fun _ => 0), 0, (fun _ => 0), (fun _ => 0), (fun _ => 0), 0, 0, (fun _ => 0), (fun _ => 0), 0, (fun _ => 0), 0, (fun _ => 0), f3, 0, (fun _ _ => 0), (fun _ _ => 0), (fun _ _ => 0), (fun _ => 0), (fun _ => 0), (fun _ => 0), (fun _ => 0), -1, 0, 0, ⟨⟨Nat.zero_le _, rfl, fun i hi => absurd hi (Nat.not_lt_zero i)⟩, ⟨rfl, rfl, rfl, rfl, rfl, rfl, fun s c h => absurd h (Nat.not_lt_zero s), ⟨Nat.zero_le _, Nat.zero_le _, fun s c h => absurd h (Nat.not_lt_zero s)⟩, Or.inl rfl⟩, cK_0, h3, fun q => absurd q.1 nrm_0⟩, hP.left, aW_L hD⟩ ⟨0, (fun _ => 0), 0, 0, (fun _ => 0), 0, (fun _ => 0), -1, 0, 0, 0, 0, 0, 0, 0, (fun _ => 0), 0, (fun _ => 0), (fun _ => 0), -1, (fun _ => 0), (fun _ => 0), (fun _ => 0), (fun _ => 0), 0, (fun _ => 0), 0, (fun _ => 0), (fun _ => 0), 0, 0, (fun _ => 0), 0, ⟨⟨Nat.zero_le _, rfl, fun i hi => absurd hi (Nat.not_lt_zero i)⟩, ⟨rfl, rfl, rfl, rfl, rfl, rfl, fun s c h => absurd h (Nat.not_lt_zero s), ⟨Nat.zero_le _, Nat.zero_le _, fun s c h => absurd h (Nat.not_lt_zero s)⟩, Or.inl rfl⟩, rK_0, fun q => absurd q.1 nrm_0⟩, hP.right, aW_R hD⟩ hS hl
set_option maxHeartbeats 4000000 in
theorem lw_walk (l : Launch) (hflags : l.flags = flags0) (b : Addr) (xs : List Int32) : MetFree l x (headSpec (Jvm.Cond.code x code maxLocals ret :: tables_1) room_1) (lw_P b xs) (fun _ _ _ _ _ => True) lw_Q := by
  refine MetFree.of_bodyS (code := code) (maxLocals := maxLocals) (ret := ret) (by decide) ?_ ?_
  · intro args s m h hn
    obtain ⟨meth, c, h1, h2, h3, h4, h5, h6, -, -⟩ := Cond.code_spec hn (atoms_spec (ws := Jvm.Cond.code x code maxLocals ret :: tables_1) h _ List.mem_cons_self)
    exact ⟨meth, c, h1, h2, h3, h4, h5, h6⟩
  · intro p e s m args below meth c s₁ B hml0 hP _
    obtain ⟨rfl, hx, hbd, hgv⟩ := hP
    obtain ⟨scr, harrAt, hlist, hof, hsmall⟩ := hx
    obtain ⟨hcb, hkn, -, -⟩ := State.arrayAt?_spec harrAt
    have hown : s.vm.findClass R_law = some m.cls := findClass_of_methodNamed B.named
    have hts0 : ∀ c ∈ (Jvm.Cond.code x code maxLocals ret :: tables_1), c.before #[Value.ref b] s = true := atoms_spec (ws := Jvm.Cond.code x code maxLocals ret :: tables_1) B.pre
    have hts : ∀ w ∈ lw_tbl, w.before #[Value.ref b] s = true := k2_hts_sels lw_privs (fun w hw => hts0 w (List.mem_cons_of_mem _ hw)) lw_privs_ok
    have hml : c.maxLocals = 4 := B.maxLocals_eq (hts0 _ List.mem_cons_self)
    have X₀ : Stand p l e room_1 s m #[Value.ref b] below meth c s₁ [] 0 0 := Stand.of_body B
    have hh0 : s₁.heap = s.heap := by rw [B.state]; rfl
    have hsz : scr.slots.size = xs.length := by rw [← Array.length_toList, hlist, List.length_map]
    have hval : ∀ j : Nat, j < xs.length → scr.slots[j]? = some (.int (xs.getD j 0)) := fun j hj => by
      rw [← Array.getElem?_toList, hlist]
      simp [hj]
    have hbl : b < s.heap.size := (Array.getElem?_eq_some_iff.mp hcb).1
    have hX : va_X b xs.length (fun j => xs.getD j 0) s s.heap := ⟨scr, hcb, hof, hkn, hsz, hval⟩
    have K : W p l e room_1 s m #[Value.ref b] below meth c s₁.heap [] 0 0 (lw_Z below #[Value.ref b] s) (entryFrame m ([Value.ref b] : List Value).toArray 4) := by
      rw [hh0]
      exact whole_start l hflags hbd ⟨B.exec, B.bytes, B.returns, hml, hown, hts, hX, hbl, B.notSynchronized, hgv⟩
    obtain ⟨t, a1, o, b1, b2, b3⟩ := K s₁ rfl X₀
    exact ⟨t, o, a1, b1, b2, b3⟩
theorem lw_pre_spec {args : Array Value} {s : State} (h : (Jvm.Cond.and given_1 narrow_1).before args s = true) (hr : rest_1_c.before args s = true) : ∃ (b : Addr) (xs : List Int32), lw_P b xs args s := by
  have hs := flat_of_before _ h
  have hq := flat_of_before _ hr
  have hc : (Cond.count 1).before args s = true := hs _ (by decide +kernel)
  have harr : (Cond.arrayOf (.arg 0) .int).before args s = true := hs _ (by decide +kernel)
  have hle : (Cond.le (.length (.arg 0)) (.int 2048)).before args s = true := hs _ (by decide +kernel)
  have hlen : (Cond.isInt (.length (.arg 0))).before args s = true := hq _ (by decide +kernel)
  have hall : (Cond.all (.arg 0) (.isInt (.elem (.arg 0) (.index 0)))).before args s = true := hq _ (by decide +kernel)
  obtain ⟨b, xs, hb, hx⟩ := State.ints_of_pre rfl harr hlen hall
  have hsm : xs.length < 2 ^ 31 := hx.choose_spec.2.2.2
  have hev : (Term.length (.arg 0)).eval args s none [] s = some (.int xs.length.toInt32) := hx.length_eval hb
  have hv := Cond.le_ints hev (show (Term.int 2048).eval args s none [] s = some (.int 2048) from rfl)
  have hd : xs.length.toInt32 ≤ 2048 := by
    simpa [Cond.before, Cond.holds, hv] using hle
  have hN : xs.length ≤ 2048 := (Int32.ofNat_le_ofNat hsm (by decide)).mp (show Int32.ofNat xs.length ≤ Int32.ofNat 2048 from hd)
  exact ⟨b, xs, Cond.one_arg hc (show args[0]? = some (.ref b) from hb), hx, hN, h⟩
theorem lw_comes (l : Launch) (hflags : l.flags = flags0) : Comes l x (Jvm.Cond.code x code maxLocals ret :: tables_1) room_1 (fun tb e args s => Calls_1 tb e args s ∧ rest_1 tb e args s ∧ Pre_1 tb e args s)
    (fun _ _ args s o t => lw_Q args s o t) := by
  intro p e ha hc hk s m args below hf hfit hheap happ hpre
  obtain ⟨b, xs, hP⟩ := lw_pre_spec hpre.2.2 hpre.2.1
  obtain ⟨k, o, h1, h2, h3, hQ⟩ := lw_walk l hflags b xs p e ha hc hk s m args below hf ((Spec.applies_iff_loose hf).mp happ).1 hP trivial
  exact ⟨k, o, h1, h2, h3, hQ⟩
theorem lw_frame {s t : State} {o : Outcome} {args : Array Value} (h : Framed s o t [] 600000 7302250) :
    Framed s o t (fieldLocs frame_1_writes args s ++ arrayLocs frame_1_arrays args s ++ staticLocs frame_1_statics s) 600000 7302250 := h
theorem lw_limb (L : Cond) (hL : ∀ (args : Array Value) (s t : State), L.after args s (.returned (some (.int 1))) t = true) :
    ArmFor flags0 classFile x code maxLocals ret World_1 tables_1 room_1 Calls_1 rest_1 Pre_1
      (fun tb e a s o t => postC L tb e a s o t ∧ Framed s o t (fieldLocs frame_1_writes a s ++ arrayLocs frame_1_arrays a s ++ staticLocs frame_1_statics s) 600000 7302250) := by
  intro l hflags _ _ p e ha hc hk s m args below hf hfit hheap happ hpre
  obtain ⟨k, o, h1, h2, h3, rfl, hF⟩ := lw_comes l hflags p e ha hc hk s m args below hf hfit hheap happ hpre
  exact ⟨k, _, h1, h2, h3, hL args s _, lw_frame hF⟩
theorem i_vc : Claimed_1_1 ∧ Claimed_1_2 := ⟨lw_limb limb_1_1 (fun args s t => by simp [limb_1_1, Cond.after, Cond.holds, Cond.value]), lw_limb limb_1_2 (fun args s t => Cond.after_iff.mpr (by
  first | (rw [show limb_1_2 = Cond.eq .result (.int 1) from rfl, Cond.eq_ints (x := 1) (y := 1) rfl rfl]; simp; done) | (simp [limb_1_2, Cond.value, Term.eval]; done)))⟩

