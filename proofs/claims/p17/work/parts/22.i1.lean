/-- an array of references, by what it holds below its length -/
theorem va_P.refs {D : va_G} {cl : List vw_C} {ws : va_W} {H : Heap} (h : va_P D cl ws H) (k0 : Nat) {a : Nat} {cA : ClassId} {n : Nat} {f f' : Nat → Option Nat} (hk0 : ws[k0]? = some (a, .inl (cA, n, .inr (.inr (.inr (.inr f)))))) (hf : ∀ j, j < n → f j = f' j) : va_P D cl (ws.set k0 (a, .inl (cA, n, .inr (.inr (.inr (.inr f')))))) H := by
  intro k q hk
  by_cases e : k = k0
  · subst e
    have hlt : k < ws.length := (List.getElem?_eq_some_iff.mp hk0).1
    rw [List.getElem?_set_self hlt] at hk
    cases hk
    have h1 : H[a]? = some (arrV cA n (fun j => va_rf (f j))) := h k _ hk0
    show H[a]? = some (arrV cA n (fun j => va_rf (f' j)))
    rw [h1]
    congr 1
    unfold arrV
    congr 1
    apply congrArg
    funext j
    exact congrArg va_rf (hf j.1 j.2)
  · rw [List.getElem?_set_ne (fun q => e q.symm)] at hk
    exact h k q hk
theorem t3_0 : ∀ k, k < 128 → 0 < k → 3 * t3 (k / 2) + k % 2 = t3 k := by decide +kernel
theorem t3_and : ∀ k, k < 128 → nI k &&& (1 : Int32) = nI (k % 2) := by decide +kernel
theorem t3_shr : ∀ k, k < 128 → nI k >>> ((1 : Int32) &&& 31) = nI (k / 2) := by decide +kernel
theorem t3_0z : t3 0 = 0 := by decide
set_option maxHeartbeats 4000000 in
set_option maxRecDepth 100000 in
theorem i_X5 (l : Launch) (D : va_G) (h0 sz : Nat) : Met l yX5_init (Cond.code yX5_init cX5_init 1 none :: wsL_law) { frames := 1, cells := 1, slots := 40, locals := 12 } (va_Pc [.ref h0] (fun U => U.heap.size = sz ∧ va_P D vwCl [(h0, .inr (5, [.null, .int 0, .int 0, .int 0, .int 0, .int 0]))] U.heap ∧ va_K D vwCl [] U ∧ va_D (fun _ => True) [(h0, .inr (5, [.null, .int 0, .int 0, .int 0, .int 0, .int 0]))])) (va_Qv (fun _ : Unit => True) (fun _ t => ∃ (q1 : Nat) (c1 : ClassId), va_P D vwCl [(h0, .inr (5, [.ref q1, .int 0, .int 0, .int 0, .int 0, .int 0])), (q1, .inl (c1, 40, .inl (fun _ => 0)))] t.heap ∧ va_K D vwCl [(c1, .char)] t ∧ va_D (va_A [(h0, .inr (5, [.null, .int 0, .int 0, .int 0, .int 0, .int 0]))] sz) [(h0, .inr (5, [.ref q1, .int 0, .int 0, .int 0, .int 0, .int 0])), (q1, .inl (c1, 40, .inl (fun _ => 0)))]) (va_A [(h0, .inr (5, [.null, .int 0, .int 0, .int 0, .int 0, .int 0]))] sz)) 1 40 (va_A [(h0, .inr (5, [.null, .int 0, .int 0, .int 0, .int 0, .int 0]))] sz) := by
  refine Met.ofW (cc := cX5_init) (maxL := 1) (ret := none) (by decide) rfl ?_
  intro p e s m args below meth c s₁ B hml hv
  obtain ⟨rfl, hsz, hP, hK, hD0⟩ := hv
  have hx := B.exec
  have hb := B.bytes
  have hr := B.returns
  have hts : ∀ w ∈ wsL_law, w.before _ s = true := fun w h => atoms_spec (ws := Cond.code yX5_init cX5_init 1 none :: wsL_law) B.pre w (List.mem_cons_of_mem _ h)
  have hown : s.vm.findClass RX5 = some m.cls := findClass_of_methodNamed B.named
  have hlocks := B.notSynchronized
  have hin : meth.name = "<init>" := (name_of_methodNamed B.named B.method).1
  subst hsz
  have hD := hD0.self (sz := s.heap.size)
  generalize hAe : va_A [(h0, .inr (5, [.null, .int 0, .int 0, .int 0, .int 0, .int 0]))] s.heap.size = A at hD ⊢
  have hA : ∀ q : Nat, s.heap.size ≤ q → A q := fun q h => by rw [← hAe]; exact Or.inr h
  have hS : va_S A s.heap s.heap [] := va_S.rf
  have hP : va_P D vwCl [(h0, .inr (5, [.null, .int 0, .int 0, .int 0, .int 0, .int 0]))] s.heap := hP
  have hl := lv_entry ([.ref h0]) (n := 1) (Nat.le_of_ble_eq_true rfl)
  rw [lg_entry_eq]
  generalize (lg_sl ([.ref h0]) ++ List.replicate (1 - (lg_sl ([.ref h0])).length) Slot.unset).toArray = ls at hl ⊢
  have hl : lv_has ls 1 [(0, .ref h0)] := hl
  refine lv_aload_n hx hb dX5_init_0 rfl (lv_at hl 0 rfl) ?_
  refine W.objInit hx hb hown (hts _ (inr3 _ (List.mem_of_getElem? (i := 5) rfl))) (hts _ (inr1 _ (List.mem_of_getElem? (i := 10) rfl))) (hts _ (inr1 _ (List.mem_of_getElem? (i := 11) rfl))) rfl (by rw [hml]; exact hl.1) rfl dX5_init_1 (Nat.le_of_ble_eq_true rfl) (Nat.le_of_ble_eq_true rfl) ?_
  refine W.eq (g2 := F0 m 4 ls []) rfl ?_
  refine lv_aload_n hx hb dX5_init_4 rfl (lv_at hl 0 rfl) ?_
  refine lv_bipush (v := (40 : Int32)) hx hb dX5_init_5 (by decide +kernel) ?_
  refine va_newa (atype := .char) (ty := .char) (N' := 40) (a0 := (40, .inl (fun _ => 0))) hx hb (hts _ (inr3 _ (List.mem_of_getElem? (i := 6) rfl))) rfl hK hP hD hS hA (fun _ => rfl) (by decide +kernel) (by decide +kernel) (Nat.le_of_ble_eq_true rfl) (Nat.le_of_ble_eq_true rfl) (Nat.le_of_ble_eq_true rfl) dX5_init_7 (fun q1 c1 H hK hP hD hS => ?_)
  have hP : va_P D vwCl [(h0, .inr (5, [.null, .int 0, .int 0, .int 0, .int 0, .int 0])), (q1, .inl (c1, 40, .inl (fun _ => 0)))] H := hP
  have hD : va_D A [(h0, .inr (5, [.null, .int 0, .int 0, .int 0, .int 0, .int 0])), (q1, .inl (c1, 40, .inl (fun _ => 0)))] := hD
  have hK : va_K D vwCl [(c1, .char)] s := hK
  refine va_putF (D := D) (ci := 5) (v := .ref q1) (ty := .array .char) (C := RX5) (T := TX5) (N := 6) hx hb hts in_wsX50 tyX5 tyX5_ok nmX5 hown hK hP hD hS 0 rfl rfl 0 (by decide) (hts _ (inr3 _ (List.mem_of_getElem? (i := 7) rfl))) (fun _ h9 => h9) rfl hin rfl (by decide +kernel) rfl rfl (Nat.le_of_ble_eq_true rfl) dX5_init_9 (fun H locs hP hD hS => ?_)
  have hP : va_P D vwCl [(h0, .inr (5, [.ref q1, .int 0, .int 0, .int 0, .int 0, .int 0])), (q1, .inl (c1, 40, .inl (fun _ => 0)))] H := hP
  have hD : va_D A [(h0, .inr (5, [.ref q1, .int 0, .int 0, .int 0, .int 0, .int 0])), (q1, .inl (c1, 40, .inl (fun _ => 0)))] := hD
  refine W.widen (k := 1) (n := 40) (Nat.le_of_ble_eq_true rfl) (Nat.le_of_ble_eq_true rfl) ?_
  exact W.vret hx hb hr (fun t ht hW => ⟨⟨(), rfl, trivial, q1, c1, by rw [ht]; exact hP, va_K.moved hW.alike hK, hD⟩, hS.F ht⟩) hS.2.2 dX5_init_12
set_option maxHeartbeats 4000000 in
set_option maxRecDepth 100000 in
theorem i_X2 (l : Launch) (D : va_G) (h0 sz : Nat) : Met l yX2_init (Cond.code yX2_init cX2_init 1 none :: wsL_law) { frames := 1, cells := 1, slots := 24, locals := 12 } (va_Pc [.ref h0] (fun U => U.heap.size = sz ∧ va_P D vwCl [(h0, .inr (2, [.null, .int 0, .int 0, .int 0, .int 0, .int 0, .int 0]))] U.heap ∧ va_K D vwCl [] U ∧ va_D (fun _ => True) [(h0, .inr (2, [.null, .int 0, .int 0, .int 0, .int 0, .int 0, .int 0]))])) (va_Qv (fun _ : Unit => True) (fun _ t => ∃ (q1 : Nat) (c1 : ClassId), va_P D vwCl [(h0, .inr (2, [.ref q1, .int 0, .int 0, .int 0, .int 0, .int ((-1) : Int32), .int 0])), (q1, .inl (c1, 24, .inl (fun _ => 0)))] t.heap ∧ va_K D vwCl [(c1, .int)] t ∧ va_D (va_A [(h0, .inr (2, [.null, .int 0, .int 0, .int 0, .int 0, .int 0, .int 0]))] sz) [(h0, .inr (2, [.ref q1, .int 0, .int 0, .int 0, .int 0, .int ((-1) : Int32), .int 0])), (q1, .inl (c1, 24, .inl (fun _ => 0)))]) (va_A [(h0, .inr (2, [.null, .int 0, .int 0, .int 0, .int 0, .int 0, .int 0]))] sz)) 1 24 (va_A [(h0, .inr (2, [.null, .int 0, .int 0, .int 0, .int 0, .int 0, .int 0]))] sz) := by
  refine Met.ofW (cc := cX2_init) (maxL := 1) (ret := none) (by decide) rfl ?_
  intro p e s m args below meth c s₁ B hml hv
  obtain ⟨rfl, hsz, hP, hK, hD0⟩ := hv
  have hx := B.exec
  have hb := B.bytes
  have hr := B.returns
  have hts : ∀ w ∈ wsL_law, w.before _ s = true := fun w h => atoms_spec (ws := Cond.code yX2_init cX2_init 1 none :: wsL_law) B.pre w (List.mem_cons_of_mem _ h)
  have hown : s.vm.findClass RX2 = some m.cls := findClass_of_methodNamed B.named
  have hlocks := B.notSynchronized
  have hin : meth.name = "<init>" := (name_of_methodNamed B.named B.method).1
  subst hsz
  have hD := hD0.self (sz := s.heap.size)
  generalize hAe : va_A [(h0, .inr (2, [.null, .int 0, .int 0, .int 0, .int 0, .int 0, .int 0]))] s.heap.size = A at hD ⊢
  have hA : ∀ q : Nat, s.heap.size ≤ q → A q := fun q h => by rw [← hAe]; exact Or.inr h
  have hS : va_S A s.heap s.heap [] := va_S.rf
  have hP : va_P D vwCl [(h0, .inr (2, [.null, .int 0, .int 0, .int 0, .int 0, .int 0, .int 0]))] s.heap := hP
  have hl := lv_entry ([.ref h0]) (n := 1) (Nat.le_of_ble_eq_true rfl)
  rw [lg_entry_eq]
  generalize (lg_sl ([.ref h0]) ++ List.replicate (1 - (lg_sl ([.ref h0])).length) Slot.unset).toArray = ls at hl ⊢
  have hl : lv_has ls 1 [(0, .ref h0)] := hl
  refine lv_aload_n hx hb dX2_init_0 rfl (lv_at hl 0 rfl) ?_
  refine W.objInit hx hb hown (hts _ (inr3 _ (List.mem_of_getElem? (i := 11) rfl))) (hts _ (inr1 _ (List.mem_of_getElem? (i := 10) rfl))) (hts _ (inr1 _ (List.mem_of_getElem? (i := 11) rfl))) rfl (by rw [hml]; exact hl.1) rfl dX2_init_1 (Nat.le_of_ble_eq_true rfl) (Nat.le_of_ble_eq_true rfl) ?_
  refine W.eq (g2 := F0 m 4 ls []) rfl ?_
  refine lv_aload_n hx hb dX2_init_4 rfl (lv_at hl 0 rfl) ?_
  refine lv_bipush (v := (24 : Int32)) hx hb dX2_init_5 (by decide +kernel) ?_
  refine va_newa (atype := .int) (ty := .int) (N' := 24) (a0 := (24, .inl (fun _ => 0))) hx hb (hts _ (inr3 _ (List.mem_of_getElem? (i := 12) rfl))) rfl hK hP hD hS hA (fun _ => rfl) (by decide +kernel) (by decide +kernel) (Nat.le_of_ble_eq_true rfl) (Nat.le_of_ble_eq_true rfl) (Nat.le_of_ble_eq_true rfl) dX2_init_7 (fun q1 c1 H hK hP hD hS => ?_)
  have hP : va_P D vwCl [(h0, .inr (2, [.null, .int 0, .int 0, .int 0, .int 0, .int 0, .int 0])), (q1, .inl (c1, 24, .inl (fun _ => 0)))] H := hP
  have hD : va_D A [(h0, .inr (2, [.null, .int 0, .int 0, .int 0, .int 0, .int 0, .int 0])), (q1, .inl (c1, 24, .inl (fun _ => 0)))] := hD
  have hK : va_K D vwCl [(c1, .int)] s := hK
  refine va_putF (D := D) (ci := 2) (v := .ref q1) (ty := .array .int) (C := RX2) (T := TX2) (N := 7) hx hb hts in_wsX20 tyX2 tyX2_ok nmX2 hown hK hP hD hS 0 rfl rfl 0 (by decide) (hts _ (inr3 _ (List.mem_of_getElem? (i := 13) rfl))) (fun _ h9 => h9) rfl hin rfl (by decide +kernel) rfl rfl (Nat.le_of_ble_eq_true rfl) dX2_init_9 (fun H locs hP hD hS => ?_)
  have hP : va_P D vwCl [(h0, .inr (2, [.ref q1, .int 0, .int 0, .int 0, .int 0, .int 0, .int 0])), (q1, .inl (c1, 24, .inl (fun _ => 0)))] H := hP
  have hD : va_D A [(h0, .inr (2, [.ref q1, .int 0, .int 0, .int 0, .int 0, .int 0, .int 0])), (q1, .inl (c1, 24, .inl (fun _ => 0)))] := hD
  refine lv_aload_n hx hb dX2_init_12 rfl (lv_at hl 0 rfl) ?_
  refine lv_iconst (v := ((-1) : Int32)) hx hb dX2_init_13 (by decide) ?_
  refine va_put (D := D) (ci := 2) (v := .int ((-1) : Int32)) (ty := .int) (C := RX2) (T := TX2) (N := 7) hx hb hts in_wsX20 tyX2 tyX2_ok nmX2 hown hK hP hD hS 0 rfl rfl 5 (by decide) (hts _ (inr3 _ (List.mem_of_getElem? (i := 14) rfl))) (fun _ h9 => h9) rfl (by decide +kernel) rfl rfl (Nat.le_of_ble_eq_true rfl) dX2_init_14 (fun H locs hP hD hS => ?_)
  have hP : va_P D vwCl [(h0, .inr (2, [.ref q1, .int 0, .int 0, .int 0, .int 0, .int ((-1) : Int32), .int 0])), (q1, .inl (c1, 24, .inl (fun _ => 0)))] H := hP
  have hD : va_D A [(h0, .inr (2, [.ref q1, .int 0, .int 0, .int 0, .int 0, .int ((-1) : Int32), .int 0])), (q1, .inl (c1, 24, .inl (fun _ => 0)))] := hD
  refine W.widen (k := 1) (n := 24) (Nat.le_of_ble_eq_true rfl) (Nat.le_of_ble_eq_true rfl) ?_
  exact W.vret hx hb hr (fun t ht hW => ⟨⟨(), rfl, trivial, q1, c1, by rw [ht]; exact hP, va_K.moved hW.alike hK, hD⟩, hS.F ht⟩) hS.2.2 dX2_init_17
set_option maxHeartbeats 4000000 in
set_option maxRecDepth 100000 in
theorem i_X6 (l : Launch) (D : va_G) (h0 sz : Nat) : Met l yX6_init (Cond.code yX6_init cX6_init 1 none :: wsL_law) { frames := 1, cells := 2, slots := 150, locals := 12 } (va_Pc [.ref h0] (fun U => U.heap.size = sz ∧ va_P D vwCl [(h0, .inr (6, [.null, .null, .int 0]))] U.heap ∧ va_K D vwCl [] U ∧ va_D (fun _ => True) [(h0, .inr (6, [.null, .null, .int 0]))])) (va_Qv (fun _ : Unit => True) (fun _ t => ∃ (q1 : Nat) (c1 : ClassId), ∃ (q2 : Nat) (c2 : ClassId), va_P D vwCl [(h0, .inr (6, [.ref q1, .ref q2, .int 0])), (q1, .inl (c1, 75, .inl (fun _ => 0))), (q2, .inl (c2, 75, .inl (fun _ => 0)))] t.heap ∧ va_K D vwCl [(c1, .int), (c2, .int)] t ∧ va_D (va_A [(h0, .inr (6, [.null, .null, .int 0]))] sz) [(h0, .inr (6, [.ref q1, .ref q2, .int 0])), (q1, .inl (c1, 75, .inl (fun _ => 0))), (q2, .inl (c2, 75, .inl (fun _ => 0)))]) (va_A [(h0, .inr (6, [.null, .null, .int 0]))] sz)) 2 150 (va_A [(h0, .inr (6, [.null, .null, .int 0]))] sz) := by
  refine Met.ofW (cc := cX6_init) (maxL := 1) (ret := none) (by decide) rfl ?_
  intro p e s m args below meth c s₁ B hml hv
  obtain ⟨rfl, hsz, hP, hK, hD0⟩ := hv
  have hx := B.exec
  have hb := B.bytes
  have hr := B.returns
  have hts : ∀ w ∈ wsL_law, w.before _ s = true := fun w h => atoms_spec (ws := Cond.code yX6_init cX6_init 1 none :: wsL_law) B.pre w (List.mem_cons_of_mem _ h)
  have hown : s.vm.findClass RX6 = some m.cls := findClass_of_methodNamed B.named
  have hlocks := B.notSynchronized
  have hin : meth.name = "<init>" := (name_of_methodNamed B.named B.method).1
  subst hsz
  have hD := hD0.self (sz := s.heap.size)
  generalize hAe : va_A [(h0, .inr (6, [.null, .null, .int 0]))] s.heap.size = A at hD ⊢
  have hA : ∀ q : Nat, s.heap.size ≤ q → A q := fun q h => by rw [← hAe]; exact Or.inr h
  have hS : va_S A s.heap s.heap [] := va_S.rf
  have hP : va_P D vwCl [(h0, .inr (6, [.null, .null, .int 0]))] s.heap := hP
  have hl := lv_entry ([.ref h0]) (n := 1) (Nat.le_of_ble_eq_true rfl)
  rw [lg_entry_eq]
  generalize (lg_sl ([.ref h0]) ++ List.replicate (1 - (lg_sl ([.ref h0])).length) Slot.unset).toArray = ls at hl ⊢
  have hl : lv_has ls 1 [(0, .ref h0)] := hl
  refine lv_aload_n hx hb dX6_init_0 rfl (lv_at hl 0 rfl) ?_
  refine W.objInit hx hb hown (hts _ (inr3 _ (List.mem_of_getElem? (i := 18) rfl))) (hts _ (inr1 _ (List.mem_of_getElem? (i := 10) rfl))) (hts _ (inr1 _ (List.mem_of_getElem? (i := 11) rfl))) rfl (by rw [hml]; exact hl.1) rfl dX6_init_1 (Nat.le_of_ble_eq_true rfl) (Nat.le_of_ble_eq_true rfl) ?_
  refine W.eq (g2 := F0 m 4 ls []) rfl ?_
  refine lv_aload_n hx hb dX6_init_4 rfl (lv_at hl 0 rfl) ?_
  refine lv_bipush (v := (75 : Int32)) hx hb dX6_init_5 (by decide +kernel) ?_
  refine va_newa (atype := .int) (ty := .int) (N' := 75) (a0 := (75, .inl (fun _ => 0))) hx hb (hts _ (inr3 _ (List.mem_of_getElem? (i := 12) rfl))) rfl hK hP hD hS hA (fun _ => rfl) (by decide +kernel) (by decide +kernel) (Nat.le_of_ble_eq_true rfl) (Nat.le_of_ble_eq_true rfl) (Nat.le_of_ble_eq_true rfl) dX6_init_7 (fun q1 c1 H hK hP hD hS => ?_)
  have hP : va_P D vwCl [(h0, .inr (6, [.null, .null, .int 0])), (q1, .inl (c1, 75, .inl (fun _ => 0)))] H := hP
  have hD : va_D A [(h0, .inr (6, [.null, .null, .int 0])), (q1, .inl (c1, 75, .inl (fun _ => 0)))] := hD
  have hK : va_K D vwCl [(c1, .int)] s := hK
  refine va_putF (D := D) (ci := 6) (v := .ref q1) (ty := .array .int) (C := RX6) (T := TX6) (N := 3) hx hb hts in_wsX60 tyX6 tyX6_ok nmX6 hown hK hP hD hS 0 rfl rfl 0 (by decide) (hts _ (inr3 _ (List.mem_of_getElem? (i := 19) rfl))) (fun _ h9 => h9) rfl hin rfl (by decide +kernel) rfl rfl (Nat.le_of_ble_eq_true rfl) dX6_init_9 (fun H locs hP hD hS => ?_)
  have hP : va_P D vwCl [(h0, .inr (6, [.ref q1, .null, .int 0])), (q1, .inl (c1, 75, .inl (fun _ => 0)))] H := hP
  have hD : va_D A [(h0, .inr (6, [.ref q1, .null, .int 0])), (q1, .inl (c1, 75, .inl (fun _ => 0)))] := hD
  refine lv_aload_n hx hb dX6_init_12 rfl (lv_at hl 0 rfl) ?_
  refine lv_bipush (v := (75 : Int32)) hx hb dX6_init_13 (by decide +kernel) ?_
  refine va_newa (atype := .int) (ty := .int) (N' := 75) (a0 := (75, .inl (fun _ => 0))) hx hb (hts _ (inr3 _ (List.mem_of_getElem? (i := 12) rfl))) rfl hK hP hD hS hA (fun _ => rfl) (by decide +kernel) (by decide +kernel) (Nat.le_of_ble_eq_true rfl) (Nat.le_of_ble_eq_true rfl) (Nat.le_of_ble_eq_true rfl) dX6_init_15 (fun q2 c2 H hK hP hD hS => ?_)
  have hP : va_P D vwCl [(h0, .inr (6, [.ref q1, .null, .int 0])), (q1, .inl (c1, 75, .inl (fun _ => 0))), (q2, .inl (c2, 75, .inl (fun _ => 0)))] H := hP
  have hD : va_D A [(h0, .inr (6, [.ref q1, .null, .int 0])), (q1, .inl (c1, 75, .inl (fun _ => 0))), (q2, .inl (c2, 75, .inl (fun _ => 0)))] := hD
  have hK : va_K D vwCl [(c1, .int), (c2, .int)] s := hK
  refine va_putF (D := D) (ci := 6) (v := .ref q2) (ty := .array .int) (C := RX6) (T := TX6) (N := 3) hx hb hts in_wsX60 tyX6 tyX6_ok nmX6 hown hK hP hD hS 0 rfl rfl 1 (by decide) (hts _ (inr3 _ (List.mem_of_getElem? (i := 20) rfl))) (fun _ h9 => h9) rfl hin rfl (by decide +kernel) rfl rfl (Nat.le_of_ble_eq_true rfl) dX6_init_17 (fun H locs hP hD hS => ?_)
  have hP : va_P D vwCl [(h0, .inr (6, [.ref q1, .ref q2, .int 0])), (q1, .inl (c1, 75, .inl (fun _ => 0))), (q2, .inl (c2, 75, .inl (fun _ => 0)))] H := hP
  have hD : va_D A [(h0, .inr (6, [.ref q1, .ref q2, .int 0])), (q1, .inl (c1, 75, .inl (fun _ => 0))), (q2, .inl (c2, 75, .inl (fun _ => 0)))] := hD
  refine W.widen (k := 2) (n := 150) (Nat.le_of_ble_eq_true rfl) (Nat.le_of_ble_eq_true rfl) ?_
  exact W.vret hx hb hr (fun t ht hW => ⟨⟨(), rfl, trivial, q1, c1, q2, c2, by rw [ht]; exact hP, va_K.moved hW.alike hK, hD⟩, hS.F ht⟩) hS.2.2 dX6_init_20
set_option maxHeartbeats 4000000 in
set_option maxRecDepth 100000 in
theorem i_X3 (l : Launch) (D : va_G) (h0 sz : Nat) : Met l yX3_init (Cond.code yX3_init cX3_init 1 none :: wsL_law) { frames := 1, cells := 3, slots := 70, locals := 12 } (va_Pc [.ref h0] (fun U => U.heap.size = sz ∧ va_P D vwCl [(h0, .inr (3, [.null, .null, .null, .int 0, .int 0]))] U.heap ∧ va_K D vwCl [] U ∧ va_D (fun _ => True) [(h0, .inr (3, [.null, .null, .null, .int 0, .int 0]))])) (va_Qv (fun _ : Unit => True) (fun _ t => ∃ (q1 : Nat) (c1 : ClassId), ∃ (q2 : Nat) (c2 : ClassId), ∃ (q3 : Nat) (c3 : ClassId), va_P D vwCl [(h0, .inr (3, [.ref q1, .ref q2, .ref q3, .int 0, .int 0])), (q1, .inl (c1, 5, .inl (fun _ => 0))), (q2, .inl (c2, 32, .inr (.inl (fun _ => 0)))), (q3, .inl (c3, 33, .inr (.inl (fun _ => 0))))] t.heap ∧ va_K D vwCl [(c1, .int), (c2, .long), (c3, .long)] t ∧ va_D (va_A [(h0, .inr (3, [.null, .null, .null, .int 0, .int 0]))] sz) [(h0, .inr (3, [.ref q1, .ref q2, .ref q3, .int 0, .int 0])), (q1, .inl (c1, 5, .inl (fun _ => 0))), (q2, .inl (c2, 32, .inr (.inl (fun _ => 0)))), (q3, .inl (c3, 33, .inr (.inl (fun _ => 0))))]) (va_A [(h0, .inr (3, [.null, .null, .null, .int 0, .int 0]))] sz)) 3 70 (va_A [(h0, .inr (3, [.null, .null, .null, .int 0, .int 0]))] sz) := by
  refine Met.ofW (cc := cX3_init) (maxL := 1) (ret := none) (by decide) rfl ?_
  intro p e s m args below meth c s₁ B hml hv
  obtain ⟨rfl, hsz, hP, hK, hD0⟩ := hv
  have hx := B.exec
  have hb := B.bytes
  have hr := B.returns
  have hts : ∀ w ∈ wsL_law, w.before _ s = true := fun w h => atoms_spec (ws := Cond.code yX3_init cX3_init 1 none :: wsL_law) B.pre w (List.mem_cons_of_mem _ h)
  have hown : s.vm.findClass RX3 = some m.cls := findClass_of_methodNamed B.named
  have hlocks := B.notSynchronized
  have hin : meth.name = "<init>" := (name_of_methodNamed B.named B.method).1
  subst hsz
  have hD := hD0.self (sz := s.heap.size)
  generalize hAe : va_A [(h0, .inr (3, [.null, .null, .null, .int 0, .int 0]))] s.heap.size = A at hD ⊢
  have hA : ∀ q : Nat, s.heap.size ≤ q → A q := fun q h => by rw [← hAe]; exact Or.inr h
  have hS : va_S A s.heap s.heap [] := va_S.rf
  have hP : va_P D vwCl [(h0, .inr (3, [.null, .null, .null, .int 0, .int 0]))] s.heap := hP
  have hl := lv_entry ([.ref h0]) (n := 1) (Nat.le_of_ble_eq_true rfl)
  rw [lg_entry_eq]
  generalize (lg_sl ([.ref h0]) ++ List.replicate (1 - (lg_sl ([.ref h0])).length) Slot.unset).toArray = ls at hl ⊢
  have hl : lv_has ls 1 [(0, .ref h0)] := hl
  refine lv_aload_n hx hb dX3_init_0 rfl (lv_at hl 0 rfl) ?_
  refine W.objInit hx hb hown (hts _ (inr4 _ (List.mem_of_getElem? (i := 0) rfl))) (hts _ (inr1 _ (List.mem_of_getElem? (i := 10) rfl))) (hts _ (inr1 _ (List.mem_of_getElem? (i := 11) rfl))) rfl (by rw [hml]; exact hl.1) rfl dX3_init_1 (Nat.le_of_ble_eq_true rfl) (Nat.le_of_ble_eq_true rfl) ?_
  refine W.eq (g2 := F0 m 4 ls []) rfl ?_
  refine lv_aload_n hx hb dX3_init_4 rfl (lv_at hl 0 rfl) ?_
  refine lv_iconst (v := (5 : Int32)) hx hb dX3_init_5 (by decide) ?_
  refine va_newa (atype := .int) (ty := .int) (N' := 5) (a0 := (5, .inl (fun _ => 0))) hx hb (hts _ (inr3 _ (List.mem_of_getElem? (i := 12) rfl))) rfl hK hP hD hS hA (fun _ => rfl) (by decide +kernel) (by decide +kernel) (Nat.le_of_ble_eq_true rfl) (Nat.le_of_ble_eq_true rfl) (Nat.le_of_ble_eq_true rfl) dX3_init_6 (fun q1 c1 H hK hP hD hS => ?_)
  have hP : va_P D vwCl [(h0, .inr (3, [.null, .null, .null, .int 0, .int 0])), (q1, .inl (c1, 5, .inl (fun _ => 0)))] H := hP
  have hD : va_D A [(h0, .inr (3, [.null, .null, .null, .int 0, .int 0])), (q1, .inl (c1, 5, .inl (fun _ => 0)))] := hD
  have hK : va_K D vwCl [(c1, .int)] s := hK
  refine va_putF (D := D) (ci := 3) (v := .ref q1) (ty := .array .int) (C := RX3) (T := TX3) (N := 5) hx hb hts in_wsX30 tyX3 tyX3_ok nmX3 hown hK hP hD hS 0 rfl rfl 0 (by decide) (hts _ (inr4 _ (List.mem_of_getElem? (i := 1) rfl))) (fun _ h9 => h9) rfl hin rfl (by decide +kernel) rfl rfl (Nat.le_of_ble_eq_true rfl) dX3_init_8 (fun H locs hP hD hS => ?_)
  have hP : va_P D vwCl [(h0, .inr (3, [.ref q1, .null, .null, .int 0, .int 0])), (q1, .inl (c1, 5, .inl (fun _ => 0)))] H := hP
  have hD : va_D A [(h0, .inr (3, [.ref q1, .null, .null, .int 0, .int 0])), (q1, .inl (c1, 5, .inl (fun _ => 0)))] := hD
  refine lv_aload_n hx hb dX3_init_11 rfl (lv_at hl 0 rfl) ?_
  refine lv_bipush (v := (32 : Int32)) hx hb dX3_init_12 (by decide +kernel) ?_
  refine va_newa (atype := .long) (ty := .long) (N' := 32) (a0 := (32, .inr (.inl (fun _ => 0)))) hx hb (hts _ (inr4 _ (List.mem_of_getElem? (i := 2) rfl))) rfl hK hP hD hS hA (fun _ => rfl) (by decide +kernel) (by decide +kernel) (Nat.le_of_ble_eq_true rfl) (Nat.le_of_ble_eq_true rfl) (Nat.le_of_ble_eq_true rfl) dX3_init_14 (fun q2 c2 H hK hP hD hS => ?_)
  have hP : va_P D vwCl [(h0, .inr (3, [.ref q1, .null, .null, .int 0, .int 0])), (q1, .inl (c1, 5, .inl (fun _ => 0))), (q2, .inl (c2, 32, .inr (.inl (fun _ => 0))))] H := hP
  have hD : va_D A [(h0, .inr (3, [.ref q1, .null, .null, .int 0, .int 0])), (q1, .inl (c1, 5, .inl (fun _ => 0))), (q2, .inl (c2, 32, .inr (.inl (fun _ => 0))))] := hD
  have hK : va_K D vwCl [(c1, .int), (c2, .long)] s := hK
  refine va_putF (D := D) (ci := 3) (v := .ref q2) (ty := .array .long) (C := RX3) (T := TX3) (N := 5) hx hb hts in_wsX30 tyX3 tyX3_ok nmX3 hown hK hP hD hS 0 rfl rfl 1 (by decide) (hts _ (inr4 _ (List.mem_of_getElem? (i := 3) rfl))) (fun _ h9 => h9) rfl hin rfl (by decide +kernel) rfl rfl (Nat.le_of_ble_eq_true rfl) dX3_init_16 (fun H locs hP hD hS => ?_)
  have hP : va_P D vwCl [(h0, .inr (3, [.ref q1, .ref q2, .null, .int 0, .int 0])), (q1, .inl (c1, 5, .inl (fun _ => 0))), (q2, .inl (c2, 32, .inr (.inl (fun _ => 0))))] H := hP
  have hD : va_D A [(h0, .inr (3, [.ref q1, .ref q2, .null, .int 0, .int 0])), (q1, .inl (c1, 5, .inl (fun _ => 0))), (q2, .inl (c2, 32, .inr (.inl (fun _ => 0))))] := hD
  refine lv_aload_n hx hb dX3_init_19 rfl (lv_at hl 0 rfl) ?_
  refine lv_bipush (v := (33 : Int32)) hx hb dX3_init_20 (by decide +kernel) ?_
  refine va_newa (atype := .long) (ty := .long) (N' := 33) (a0 := (33, .inr (.inl (fun _ => 0)))) hx hb (hts _ (inr4 _ (List.mem_of_getElem? (i := 2) rfl))) rfl hK hP hD hS hA (fun _ => rfl) (by decide +kernel) (by decide +kernel) (Nat.le_of_ble_eq_true rfl) (Nat.le_of_ble_eq_true rfl) (Nat.le_of_ble_eq_true rfl) dX3_init_22 (fun q3 c3 H hK hP hD hS => ?_)
  have hP : va_P D vwCl [(h0, .inr (3, [.ref q1, .ref q2, .null, .int 0, .int 0])), (q1, .inl (c1, 5, .inl (fun _ => 0))), (q2, .inl (c2, 32, .inr (.inl (fun _ => 0)))), (q3, .inl (c3, 33, .inr (.inl (fun _ => 0))))] H := hP
  have hD : va_D A [(h0, .inr (3, [.ref q1, .ref q2, .null, .int 0, .int 0])), (q1, .inl (c1, 5, .inl (fun _ => 0))), (q2, .inl (c2, 32, .inr (.inl (fun _ => 0)))), (q3, .inl (c3, 33, .inr (.inl (fun _ => 0))))] := hD
  have hK : va_K D vwCl [(c1, .int), (c2, .long), (c3, .long)] s := hK
  refine va_putF (D := D) (ci := 3) (v := .ref q3) (ty := .array .long) (C := RX3) (T := TX3) (N := 5) hx hb hts in_wsX30 tyX3 tyX3_ok nmX3 hown hK hP hD hS 0 rfl rfl 2 (by decide) (hts _ (inr4 _ (List.mem_of_getElem? (i := 4) rfl))) (fun _ h9 => h9) rfl hin rfl (by decide +kernel) rfl rfl (Nat.le_of_ble_eq_true rfl) dX3_init_24 (fun H locs hP hD hS => ?_)
  have hP : va_P D vwCl [(h0, .inr (3, [.ref q1, .ref q2, .ref q3, .int 0, .int 0])), (q1, .inl (c1, 5, .inl (fun _ => 0))), (q2, .inl (c2, 32, .inr (.inl (fun _ => 0)))), (q3, .inl (c3, 33, .inr (.inl (fun _ => 0))))] H := hP
  have hD : va_D A [(h0, .inr (3, [.ref q1, .ref q2, .ref q3, .int 0, .int 0])), (q1, .inl (c1, 5, .inl (fun _ => 0))), (q2, .inl (c2, 32, .inr (.inl (fun _ => 0)))), (q3, .inl (c3, 33, .inr (.inl (fun _ => 0))))] := hD
  refine W.widen (k := 3) (n := 70) (Nat.le_of_ble_eq_true rfl) (Nat.le_of_ble_eq_true rfl) ?_
  exact W.vret hx hb hr (fun t ht hW => ⟨⟨(), rfl, trivial, q1, c1, q2, c2, q3, c3, by rw [ht]; exact hP, va_K.moved hW.alike hK, hD⟩, hS.F ht⟩) hS.2.2 dX3_init_27
set_option maxHeartbeats 4000000 in
set_option maxRecDepth 100000 in
theorem i_X7 (l : Launch) (D : va_G) (h0 sz : Nat) : Met l yX7_init (Cond.code yX7_init cX7_init 1 none :: wsL_law) { frames := 1, cells := 2, slots := 11, locals := 12 } (va_Pc [.ref h0] (fun U => U.heap.size = sz ∧ va_P D vwCl [(h0, .inr (7, [.null, .null, .int 0]))] U.heap ∧ va_K D vwCl [] U ∧ va_D (fun _ => True) [(h0, .inr (7, [.null, .null, .int 0]))])) (va_Qv (fun _ : Unit => True) (fun _ t => ∃ (q1 : Nat) (c1 : ClassId), ∃ (q2 : Nat) (c2 : ClassId), va_P D vwCl [(h0, .inr (7, [.ref q1, .ref q2, .int 0])), (q1, .inl (c1, 5, .inl (fun _ => 0))), (q2, .inl (c2, 6, .inl (fun _ => 0)))] t.heap ∧ va_K D vwCl [(c1, .int), (c2, .int)] t ∧ va_D (va_A [(h0, .inr (7, [.null, .null, .int 0]))] sz) [(h0, .inr (7, [.ref q1, .ref q2, .int 0])), (q1, .inl (c1, 5, .inl (fun _ => 0))), (q2, .inl (c2, 6, .inl (fun _ => 0)))]) (va_A [(h0, .inr (7, [.null, .null, .int 0]))] sz)) 2 11 (va_A [(h0, .inr (7, [.null, .null, .int 0]))] sz) := by
  refine Met.ofW (cc := cX7_init) (maxL := 1) (ret := none) (by decide) rfl ?_
  intro p e s m args below meth c s₁ B hml hv
  obtain ⟨rfl, hsz, hP, hK, hD0⟩ := hv
  have hx := B.exec
  have hb := B.bytes
  have hr := B.returns
  have hts : ∀ w ∈ wsL_law, w.before _ s = true := fun w h => atoms_spec (ws := Cond.code yX7_init cX7_init 1 none :: wsL_law) B.pre w (List.mem_cons_of_mem _ h)
  have hown : s.vm.findClass RX7 = some m.cls := findClass_of_methodNamed B.named
  have hlocks := B.notSynchronized
  have hin : meth.name = "<init>" := (name_of_methodNamed B.named B.method).1
  subst hsz
  have hD := hD0.self (sz := s.heap.size)
  generalize hAe : va_A [(h0, .inr (7, [.null, .null, .int 0]))] s.heap.size = A at hD ⊢
  have hA : ∀ q : Nat, s.heap.size ≤ q → A q := fun q h => by rw [← hAe]; exact Or.inr h
  have hS : va_S A s.heap s.heap [] := va_S.rf
  have hP : va_P D vwCl [(h0, .inr (7, [.null, .null, .int 0]))] s.heap := hP
  have hl := lv_entry ([.ref h0]) (n := 1) (Nat.le_of_ble_eq_true rfl)
  rw [lg_entry_eq]
  generalize (lg_sl ([.ref h0]) ++ List.replicate (1 - (lg_sl ([.ref h0])).length) Slot.unset).toArray = ls at hl ⊢
  have hl : lv_has ls 1 [(0, .ref h0)] := hl
  refine lv_aload_n hx hb dX7_init_0 rfl (lv_at hl 0 rfl) ?_
  refine W.objInit hx hb hown (hts _ (inr4 _ (List.mem_of_getElem? (i := 8) rfl))) (hts _ (inr1 _ (List.mem_of_getElem? (i := 10) rfl))) (hts _ (inr1 _ (List.mem_of_getElem? (i := 11) rfl))) rfl (by rw [hml]; exact hl.1) rfl dX7_init_1 (Nat.le_of_ble_eq_true rfl) (Nat.le_of_ble_eq_true rfl) ?_
  refine W.eq (g2 := F0 m 4 ls []) rfl ?_
  refine lv_aload_n hx hb dX7_init_4 rfl (lv_at hl 0 rfl) ?_
  refine lv_iconst (v := (5 : Int32)) hx hb dX7_init_5 (by decide) ?_
  refine va_newa (atype := .int) (ty := .int) (N' := 5) (a0 := (5, .inl (fun _ => 0))) hx hb (hts _ (inr3 _ (List.mem_of_getElem? (i := 12) rfl))) rfl hK hP hD hS hA (fun _ => rfl) (by decide +kernel) (by decide +kernel) (Nat.le_of_ble_eq_true rfl) (Nat.le_of_ble_eq_true rfl) (Nat.le_of_ble_eq_true rfl) dX7_init_6 (fun q1 c1 H hK hP hD hS => ?_)
  have hP : va_P D vwCl [(h0, .inr (7, [.null, .null, .int 0])), (q1, .inl (c1, 5, .inl (fun _ => 0)))] H := hP
  have hD : va_D A [(h0, .inr (7, [.null, .null, .int 0])), (q1, .inl (c1, 5, .inl (fun _ => 0)))] := hD
  have hK : va_K D vwCl [(c1, .int)] s := hK
  refine va_putF (D := D) (ci := 7) (v := .ref q1) (ty := .array .int) (C := RX7) (T := TX7) (N := 3) hx hb hts in_wsX70 tyX7 tyX7_ok nmX7 hown hK hP hD hS 0 rfl rfl 0 (by decide) (hts _ (inr4 _ (List.mem_of_getElem? (i := 9) rfl))) (fun _ h9 => h9) rfl hin rfl (by decide +kernel) rfl rfl (Nat.le_of_ble_eq_true rfl) dX7_init_8 (fun H locs hP hD hS => ?_)
  have hP : va_P D vwCl [(h0, .inr (7, [.ref q1, .null, .int 0])), (q1, .inl (c1, 5, .inl (fun _ => 0)))] H := hP
  have hD : va_D A [(h0, .inr (7, [.ref q1, .null, .int 0])), (q1, .inl (c1, 5, .inl (fun _ => 0)))] := hD
  refine lv_aload_n hx hb dX7_init_11 rfl (lv_at hl 0 rfl) ?_
  refine lv_bipush (v := (6 : Int32)) hx hb dX7_init_12 (by decide +kernel) ?_
  refine va_newa (atype := .int) (ty := .int) (N' := 6) (a0 := (6, .inl (fun _ => 0))) hx hb (hts _ (inr3 _ (List.mem_of_getElem? (i := 12) rfl))) rfl hK hP hD hS hA (fun _ => rfl) (by decide +kernel) (by decide +kernel) (Nat.le_of_ble_eq_true rfl) (Nat.le_of_ble_eq_true rfl) (Nat.le_of_ble_eq_true rfl) dX7_init_14 (fun q2 c2 H hK hP hD hS => ?_)
  have hP : va_P D vwCl [(h0, .inr (7, [.ref q1, .null, .int 0])), (q1, .inl (c1, 5, .inl (fun _ => 0))), (q2, .inl (c2, 6, .inl (fun _ => 0)))] H := hP
  have hD : va_D A [(h0, .inr (7, [.ref q1, .null, .int 0])), (q1, .inl (c1, 5, .inl (fun _ => 0))), (q2, .inl (c2, 6, .inl (fun _ => 0)))] := hD
  have hK : va_K D vwCl [(c1, .int), (c2, .int)] s := hK
  refine va_putF (D := D) (ci := 7) (v := .ref q2) (ty := .array .int) (C := RX7) (T := TX7) (N := 3) hx hb hts in_wsX70 tyX7 tyX7_ok nmX7 hown hK hP hD hS 0 rfl rfl 1 (by decide) (hts _ (inr4 _ (List.mem_of_getElem? (i := 10) rfl))) (fun _ h9 => h9) rfl hin rfl (by decide +kernel) rfl rfl (Nat.le_of_ble_eq_true rfl) dX7_init_16 (fun H locs hP hD hS => ?_)
  have hP : va_P D vwCl [(h0, .inr (7, [.ref q1, .ref q2, .int 0])), (q1, .inl (c1, 5, .inl (fun _ => 0))), (q2, .inl (c2, 6, .inl (fun _ => 0)))] H := hP
  have hD : va_D A [(h0, .inr (7, [.ref q1, .ref q2, .int 0])), (q1, .inl (c1, 5, .inl (fun _ => 0))), (q2, .inl (c2, 6, .inl (fun _ => 0)))] := hD
  refine W.widen (k := 2) (n := 11) (Nat.le_of_ble_eq_true rfl) (Nat.le_of_ble_eq_true rfl) ?_
  exact W.vret hx hb hr (fun t ht hW => ⟨⟨(), rfl, trivial, q1, c1, q2, c2, by rw [ht]; exact hP, va_K.moved hW.alike hK, hD⟩, hS.F ht⟩) hS.2.2 dX7_init_19
set_option maxHeartbeats 4000000 in
set_option maxRecDepth 100000 in
theorem i_X0 (l : Launch) (D : va_G) (h0 sz : Nat) : Met l yX0_init (Cond.code yX0_init cX0_init 1 none :: wsL_law) { frames := 1, cells := 1, slots := 128, locals := 12 } (va_Pc [.ref h0] (fun U => U.heap.size = sz ∧ va_P D vwCl [(h0, .inr (0, [.null, .int 0]))] U.heap ∧ va_K D vwCl [] U ∧ va_D (fun _ => True) [(h0, .inr (0, [.null, .int 0]))])) (va_Qv (fun _ : Unit => True) (fun _ t => ∃ (q1 : Nat) (c1 : ClassId), va_P D vwCl [(h0, .inr (0, [.ref q1, .int 0])), (q1, .inl (c1, 128, .inl (fun _ => 0)))] t.heap ∧ va_K D vwCl [(c1, .int)] t ∧ va_D (va_A [(h0, .inr (0, [.null, .int 0]))] sz) [(h0, .inr (0, [.ref q1, .int 0])), (q1, .inl (c1, 128, .inl (fun _ => 0)))]) (va_A [(h0, .inr (0, [.null, .int 0]))] sz)) 1 128 (va_A [(h0, .inr (0, [.null, .int 0]))] sz) := by
  refine Met.ofW (cc := cX0_init) (maxL := 1) (ret := none) (by decide) rfl ?_
  intro p e s m args below meth c s₁ B hml hv
  obtain ⟨rfl, hsz, hP, hK, hD0⟩ := hv
  have hx := B.exec
  have hb := B.bytes
  have hr := B.returns
  have hts : ∀ w ∈ wsL_law, w.before _ s = true := fun w h => atoms_spec (ws := Cond.code yX0_init cX0_init 1 none :: wsL_law) B.pre w (List.mem_cons_of_mem _ h)
  have hown : s.vm.findClass RX0 = some m.cls := findClass_of_methodNamed B.named
  have hlocks := B.notSynchronized
  have hin : meth.name = "<init>" := (name_of_methodNamed B.named B.method).1
  subst hsz
  have hD := hD0.self (sz := s.heap.size)
  generalize hAe : va_A [(h0, .inr (0, [.null, .int 0]))] s.heap.size = A at hD ⊢
  have hA : ∀ q : Nat, s.heap.size ≤ q → A q := fun q h => by rw [← hAe]; exact Or.inr h
  have hS : va_S A s.heap s.heap [] := va_S.rf
  have hP : va_P D vwCl [(h0, .inr (0, [.null, .int 0]))] s.heap := hP
  have hl := lv_entry ([.ref h0]) (n := 1) (Nat.le_of_ble_eq_true rfl)
  rw [lg_entry_eq]
  generalize (lg_sl ([.ref h0]) ++ List.replicate (1 - (lg_sl ([.ref h0])).length) Slot.unset).toArray = ls at hl ⊢
  have hl : lv_has ls 1 [(0, .ref h0)] := hl
  refine lv_aload_n hx hb dX0_init_0 rfl (lv_at hl 0 rfl) ?_
  refine W.objInit hx hb hown (hts _ (inr4 _ (List.mem_of_getElem? (i := 14) rfl))) (hts _ (inr1 _ (List.mem_of_getElem? (i := 10) rfl))) (hts _ (inr1 _ (List.mem_of_getElem? (i := 11) rfl))) rfl (by rw [hml]; exact hl.1) rfl dX0_init_1 (Nat.le_of_ble_eq_true rfl) (Nat.le_of_ble_eq_true rfl) ?_
  refine W.eq (g2 := F0 m 4 ls []) rfl ?_
  refine lv_aload_n hx hb dX0_init_4 rfl (lv_at hl 0 rfl) ?_
  refine lv_sipush (v := (128 : Int32)) hx hb dX0_init_5 (by decide +kernel) ?_
  refine va_newa (atype := .int) (ty := .int) (N' := 128) (a0 := (128, .inl (fun _ => 0))) hx hb (hts _ (inr3 _ (List.mem_of_getElem? (i := 12) rfl))) rfl hK hP hD hS hA (fun _ => rfl) (by decide +kernel) (by decide +kernel) (Nat.le_of_ble_eq_true rfl) (Nat.le_of_ble_eq_true rfl) (Nat.le_of_ble_eq_true rfl) dX0_init_8 (fun q1 c1 H hK hP hD hS => ?_)
  have hP : va_P D vwCl [(h0, .inr (0, [.null, .int 0])), (q1, .inl (c1, 128, .inl (fun _ => 0)))] H := hP
  have hD : va_D A [(h0, .inr (0, [.null, .int 0])), (q1, .inl (c1, 128, .inl (fun _ => 0)))] := hD
  have hK : va_K D vwCl [(c1, .int)] s := hK
  refine va_putF (D := D) (ci := 0) (v := .ref q1) (ty := .array .int) (C := RX0) (T := TX0) (N := 2) hx hb hts in_wsX00 tyX0 tyX0_ok nmX0 hown hK hP hD hS 0 rfl rfl 0 (by decide) (hts _ (inr4 _ (List.mem_of_getElem? (i := 15) rfl))) (fun _ h9 => h9) rfl hin rfl (by decide +kernel) rfl rfl (Nat.le_of_ble_eq_true rfl) dX0_init_10 (fun H locs hP hD hS => ?_)
  have hP : va_P D vwCl [(h0, .inr (0, [.ref q1, .int 0])), (q1, .inl (c1, 128, .inl (fun _ => 0)))] H := hP
  have hD : va_D A [(h0, .inr (0, [.ref q1, .int 0])), (q1, .inl (c1, 128, .inl (fun _ => 0)))] := hD
  refine W.widen (k := 1) (n := 128) (Nat.le_of_ble_eq_true rfl) (Nat.le_of_ble_eq_true rfl) ?_
  exact W.vret hx hb hr (fun t ht hW => ⟨⟨(), rfl, trivial, q1, c1, by rw [ht]; exact hP, va_K.moved hW.alike hK, hD⟩, hS.F ht⟩) hS.2.2 dX0_init_13
set_option maxHeartbeats 4000000 in
set_option maxRecDepth 100000 in
theorem i_X1 (l : Launch) (D : va_G) (h0 sz : Nat) : Met l yX1_init (Cond.code yX1_init cX1_init 2 none :: wsL_law) { frames := 1, cells := 2, slots := 2315, locals := 12 } (va_Pc [.ref h0] (fun U => U.heap.size = sz ∧ va_P D vwCl [(h0, .inr (1, [.null, .null, .int 0]))] U.heap ∧ va_K D vwCl [] U ∧ va_D (fun _ => True) [(h0, .inr (1, [.null, .null, .int 0]))])) (va_Qv (fun _ : Unit => True) (fun _ t => ∃ (q1 : Nat) (c1 : ClassId), ∃ (q2 : Nat) (c2 : ClassId), ∃ f : Nat → Int32, va_P D vwCl [(h0, .inr (1, [.ref q1, .ref q2, .int 0])), (q1, .inl (c1, 2187, .inl (fun _ => 0))), (q2, .inl (c2, 128, .inl f))] t.heap ∧ va_K D vwCl [(c1, .byte), (c2, .int)] t ∧ va_D (va_A [(h0, .inr (1, [.null, .null, .int 0]))] sz) [(h0, .inr (1, [.ref q1, .ref q2, .int 0])), (q1, .inl (c1, 2187, .inl (fun _ => 0))), (q2, .inl (c2, 128, .inl f))] ∧ ∀ k, k < 128 → f k = nI (t3 k)) (va_A [(h0, .inr (1, [.null, .null, .int 0]))] sz)) 2 2315 (va_A [(h0, .inr (1, [.null, .null, .int 0]))] sz) := by
  refine Met.ofW (cc := cX1_init) (maxL := 2) (ret := none) (by decide) rfl ?_
  intro p e s m args below meth c s₁ B hml hv
  obtain ⟨rfl, hsz, hP, hK, hD0⟩ := hv
  have hx := B.exec
  have hb := B.bytes
  have hr := B.returns
  have hts : ∀ w ∈ wsL_law, w.before _ s = true := fun w h => atoms_spec (ws := Cond.code yX1_init cX1_init 2 none :: wsL_law) B.pre w (List.mem_cons_of_mem _ h)
  have hown : s.vm.findClass RX1 = some m.cls := findClass_of_methodNamed B.named
  have hlocks := B.notSynchronized
  have hin : meth.name = "<init>" := (name_of_methodNamed B.named B.method).1
  subst hsz
  have hD := hD0.self (sz := s.heap.size)
  generalize hAe : va_A [(h0, .inr (1, [.null, .null, .int 0]))] s.heap.size = A at hD ⊢
  have hA : ∀ q : Nat, s.heap.size ≤ q → A q := fun q h => by rw [← hAe]; exact Or.inr h
  have hS : va_S A s.heap s.heap [] := va_S.rf
  have hP : va_P D vwCl [(h0, .inr (1, [.null, .null, .int 0]))] s.heap := hP
  have hl := lv_entry ([.ref h0]) (n := 2) (Nat.le_of_ble_eq_true rfl)
  rw [lg_entry_eq]
  generalize (lg_sl ([.ref h0]) ++ List.replicate (2 - (lg_sl ([.ref h0])).length) Slot.unset).toArray = ls at hl ⊢
  have hl : lv_has ls 2 [(0, .ref h0)] := hl
  refine lv_aload_n hx hb dX1_init_0 rfl (lv_at hl 0 rfl) ?_
  refine W.objInit hx hb hown (hts _ (inr4 _ (List.mem_of_getElem? (i := 19) rfl))) (hts _ (inr1 _ (List.mem_of_getElem? (i := 10) rfl))) (hts _ (inr1 _ (List.mem_of_getElem? (i := 11) rfl))) rfl (by rw [hml]; exact hl.1) rfl dX1_init_1 (Nat.le_of_ble_eq_true rfl) (Nat.le_of_ble_eq_true rfl) ?_
  refine W.eq (g2 := F0 m 4 ls []) rfl ?_
  refine lv_aload_n hx hb dX1_init_4 rfl (lv_at hl 0 rfl) ?_
  refine lv_sipush (v := (2187 : Int32)) hx hb dX1_init_5 (by decide +kernel) ?_
  refine va_newa (atype := .byte) (ty := .byte) (N' := 2187) (a0 := (2187, .inl (fun _ => 0))) hx hb (hts _ (inr4 _ (List.mem_of_getElem? (i := 20) rfl))) rfl hK hP hD hS hA (fun _ => rfl) (by decide +kernel) (by decide +kernel) (Nat.le_of_ble_eq_true rfl) (Nat.le_of_ble_eq_true rfl) (Nat.le_of_ble_eq_true rfl) dX1_init_8 (fun q1 c1 H hK hP hD hS => ?_)
  have hP : va_P D vwCl [(h0, .inr (1, [.null, .null, .int 0])), (q1, .inl (c1, 2187, .inl (fun _ => 0)))] H := hP
  have hD : va_D A [(h0, .inr (1, [.null, .null, .int 0])), (q1, .inl (c1, 2187, .inl (fun _ => 0)))] := hD
  have hK : va_K D vwCl [(c1, .byte)] s := hK
  refine va_putF (D := D) (ci := 1) (v := .ref q1) (ty := .array .byte) (C := RX1) (T := TX1) (N := 3) hx hb hts in_wsX10 tyX1 tyX1_ok nmX1 hown hK hP hD hS 0 rfl rfl 0 (by decide) (hts _ (inr4 _ (List.mem_of_getElem? (i := 21) rfl))) (fun _ h9 => h9) rfl hin rfl (by decide +kernel) rfl rfl (Nat.le_of_ble_eq_true rfl) dX1_init_10 (fun H locs hP hD hS => ?_)
  have hP : va_P D vwCl [(h0, .inr (1, [.ref q1, .null, .int 0])), (q1, .inl (c1, 2187, .inl (fun _ => 0)))] H := hP
  have hD : va_D A [(h0, .inr (1, [.ref q1, .null, .int 0])), (q1, .inl (c1, 2187, .inl (fun _ => 0)))] := hD
  refine lv_aload_n hx hb dX1_init_13 rfl (lv_at hl 0 rfl) ?_
  refine lv_sipush (v := (128 : Int32)) hx hb dX1_init_14 (by decide +kernel) ?_
  refine va_newa (atype := .int) (ty := .int) (N' := 128) (a0 := (128, .inl (fun _ => 0))) hx hb (hts _ (inr3 _ (List.mem_of_getElem? (i := 12) rfl))) rfl hK hP hD hS hA (fun _ => rfl) (by decide +kernel) (by decide +kernel) (Nat.le_of_ble_eq_true rfl) (Nat.le_of_ble_eq_true rfl) (Nat.le_of_ble_eq_true rfl) dX1_init_17 (fun q2 c2 H hK hP hD hS => ?_)
  have hP : va_P D vwCl [(h0, .inr (1, [.ref q1, .null, .int 0])), (q1, .inl (c1, 2187, .inl (fun _ => 0))), (q2, .inl (c2, 128, .inl (fun _ => 0)))] H := hP
  have hD : va_D A [(h0, .inr (1, [.ref q1, .null, .int 0])), (q1, .inl (c1, 2187, .inl (fun _ => 0))), (q2, .inl (c2, 128, .inl (fun _ => 0)))] := hD
  have hK : va_K D vwCl [(c1, .byte), (c2, .int)] s := hK
  refine va_putF (D := D) (ci := 1) (v := .ref q2) (ty := .array .int) (C := RX1) (T := TX1) (N := 3) hx hb hts in_wsX10 tyX1 tyX1_ok nmX1 hown hK hP hD hS 0 rfl rfl 1 (by decide) (hts _ (inr4 _ (List.mem_of_getElem? (i := 22) rfl))) (fun _ h9 => h9) rfl hin rfl (by decide +kernel) rfl rfl (Nat.le_of_ble_eq_true rfl) dX1_init_19 (fun H locs hP hD hS => ?_)
  have hP : va_P D vwCl [(h0, .inr (1, [.ref q1, .ref q2, .int 0])), (q1, .inl (c1, 2187, .inl (fun _ => 0))), (q2, .inl (c2, 128, .inl (fun _ => 0)))] H := hP
  have hD : va_D A [(h0, .inr (1, [.ref q1, .ref q2, .int 0])), (q1, .inl (c1, 2187, .inl (fun _ => 0))), (q2, .inl (c2, 128, .inl (fun _ => 0)))] := hD
  refine lv_iconst (v := (1 : Int32)) hx hb dX1_init_22 (by decide) ?_
  refine lv_istore_n (lv' := [(1, .int (1 : Int32)), (0, .ref h0)]) hx hb dX1_init_23 rfl hl (by decide) rfl (fun ls hl => ?_)
  have key : ∀ (n i : Nat) (f : Nat → Int32) (ls : Array Slot) (H : Heap) (locs : List Loc), 0 < i → i ≤ 128 → 128 - i < n → (∀ k, k < i → f k = nI (t3 k)) → lv_has ls 2 [(1, .int (nI i)), (0, .ref h0)] → va_P D vwCl [(h0, .inr (1, [.ref q1, .ref q2, .int 0])), (q1, .inl (c1, 2187, .inl (fun _ => 0))), (q2, .inl (c2, 128, .inl f))] H → va_D A [(h0, .inr (1, [.ref q1, .ref q2, .int 0])), (q1, .inl (c1, 2187, .inl (fun _ => 0))), (q2, .inl (c2, 128, .inl f))] → va_S A s.heap H locs → W p l e (headSpec (Cond.code yX1_init cX1_init 2 none :: wsL_law) { frames := 1, cells := 2, slots := 2315, locals := 12 }).room s m #[Value.ref h0] below meth c H locs 2 2315 (MQ below (va_Qv (fun _ : Unit => True) (fun _ t => ∃ (q1 : Nat) (c1 : ClassId), ∃ (q2 : Nat) (c2 : ClassId), ∃ f : Nat → Int32, va_P D vwCl [(h0, .inr (1, [.ref q1, .ref q2, .int 0])), (q1, .inl (c1, 2187, .inl (fun _ => 0))), (q2, .inl (c2, 128, .inl f))] t.heap ∧ va_K D vwCl [(c1, .byte), (c2, .int)] t ∧ va_D A [(h0, .inr (1, [.ref q1, .ref q2, .int 0])), (q1, .inl (c1, 2187, .inl (fun _ => 0))), (q2, .inl (c2, 128, .inl f))] ∧ ∀ k, k < 128 → f k = nI (t3 k)) A) #[Value.ref h0] s 2 2315 A) (F0 m 24 ls []) := by
    intro n
    induction n with
    | zero => intro i f ls H locs h0 h1 h2; omega
    | succ n ih =>
      intro i f ls H locs h1 h2 h3 h4 hl hP hD hS
      refine lv_iload_n hx hb dX1_init_24 rfl (lv_at hl 0 rfl) ?_
      refine lv_sipush (v := (128 : Int32)) hx hb dX1_init_25 (by decide +kernel) ?_
      refine lv_icmp_ge (tgt := 57) hx hb dX1_init_28 (by decide) (fun c_1 => ?_) (fun c_1 => ?_)
      · rw [show (128 : Int32) = nI 128 from rfl, nI_leI (by omega) (by omega)] at c_1
        exact W.vret hx hb hr (fun t ht hW => ⟨⟨(), rfl, trivial, q1, c1, q2, c2, f, by rw [ht]; exact hP, va_K.moved hW.alike hK, hD, fun k hk => h4 k (by omega)⟩, hS.F ht⟩) hS.2.2 dX1_init_57
      · rw [show (128 : Int32) = nI 128 from rfl, nI_leI (by omega) (by omega)] at c_1
        refine lv_aload_n hx hb dX1_init_31 rfl (lv_at hl 1 rfl) ?_
        refine va_get (D := D) (ci := 1) (v := .ref q2) (C := RX1) (T := TX1) (N := 3) hx hb hts in_wsX10 hown hK hP 0 rfl rfl 1 (by decide) (hts _ (inr4 _ (List.mem_of_getElem? (i := 22) rfl))) (fun _ h9 => h9) rfl dX1_init_32 ?_
        refine lv_iload_n hx hb dX1_init_35 rfl (lv_at hl 0 rfl) ?_
        refine lv_iconst (v := (3 : Int32)) hx hb dX1_init_36 (by decide) ?_
        refine lv_aload_n hx hb dX1_init_37 rfl (lv_at hl 1 rfl) ?_
        refine va_get (D := D) (ci := 1) (v := .ref q2) (C := RX1) (T := TX1) (N := 3) hx hb hts in_wsX10 hown hK hP 0 rfl rfl 1 (by decide) (hts _ (inr4 _ (List.mem_of_getElem? (i := 22) rfl))) (fun _ h9 => h9) rfl dX1_init_38 ?_
        refine lv_iload_n hx hb dX1_init_41 rfl (lv_at hl 0 rfl) ?_
        refine lv_iconst (v := (1 : Int32)) hx hb dX1_init_42 (by decide) ?_
        refine lv_ishr hx hb dX1_init_43 ?_
        rw [t3_shr i (by omega)]
        refine va_iald hx hb hK hP 2 1 rfl rfl (pk_in (i / 2) 128 (by omega)) dX1_init_44 ?_
        rw [nI_clamp (show i / 2 < 2 ^ 31 by omega), h4 (i / 2) (by omega)]
        refine lv_imul hx hb dX1_init_45 ?_
        refine lv_iload_n hx hb dX1_init_46 rfl (lv_at hl 0 rfl) ?_
        refine lv_iconst (v := (1 : Int32)) hx hb dX1_init_47 (by decide) ?_
        refine lv_iand hx hb dX1_init_48 ?_
        refine lv_iadd hx hb dX1_init_49 ?_
        rw [t3_and i (by omega), show (3 : Int32) = nI 3 from rfl, pk_mul, nI_add, t3_0 i (by omega) h1]
        refine va_iast hx hb hK hP hD hS 2 1 rfl rfl (pk_in i 128 (by omega)) dX1_init_50 (fun H locs hP hD hS => ?_)
        rw [nI_clamp (show i < 2 ^ 31 by omega)] at hP hD
        refine lv_iinc (v := nI (i + 1)) (lv' := [(1, .int (nI (i + 1))), (0, .ref h0)]) hx hb dX1_init_51 hl (k := 0) rfl (by rw [← nI_p1 i]; rfl) (by decide) rfl (fun ls hl => ?_)
        refine lv_goto (tgt := 24) hx hb dX1_init_54 (by decide) ?_
        refine ih (i + 1) _ ls _ _ (by omega) (by omega) (by omega) (fun k hk => ?_) hl hP hD hS
        by_cases ek : k = i
        · rw [ek, pk_us]
        · rw [pk_un ek]; exact h4 k (by omega)
  refine W.widen (k := 2) (n := 2315) (Nat.le_of_ble_eq_true rfl) (Nat.le_of_ble_eq_true rfl) ?_
  exact key 128 1 _ ls _ _ (by omega) (by omega) (by omega) (fun k hk => by rw [show k = 0 by omega, t3_0z]; rfl) hl hP hD hS
set_option maxHeartbeats 4000000 in
set_option maxRecDepth 100000 in
theorem i_X4 (l : Launch) (D : va_G) (h0 sz : Nat) : Met l yX4_init (Cond.code yX4_init cX4_init 1 none :: wsL_law) { frames := 1, cells := 3, slots := 2016, locals := 12 } (va_Pc [.ref h0] (fun U => U.heap.size = sz ∧ va_P D vwCl [(h0, .inr (4, [.null, .null, .null, .int 0, .int 0, .int 0, .int 0]))] U.heap ∧ va_K D vwCl [] U ∧ va_D (fun _ => True) [(h0, .inr (4, [.null, .null, .null, .int 0, .int 0, .int 0, .int 0]))])) (va_Qv (fun _ : Unit => True) (fun _ t => ∃ (q1 : Nat) (c1 : ClassId), ∃ (q2 : Nat) (c2 : ClassId), ∃ (q3 : Nat) (c3 : ClassId), va_P D vwCl [(h0, .inr (4, [.ref q1, .ref q2, .ref q3, .int 0, .int 0, .int 0, .int 0])), (q1, .inl (c1, 672, .inl (fun _ => 0))), (q2, .inl (c2, 672, .inl (fun _ => 0))), (q3, .inl (c3, 672, .inl (fun _ => 0)))] t.heap ∧ va_K D vwCl [(c1, .int), (c2, .int), (c3, .int)] t ∧ va_D (va_A [(h0, .inr (4, [.null, .null, .null, .int 0, .int 0, .int 0, .int 0]))] sz) [(h0, .inr (4, [.ref q1, .ref q2, .ref q3, .int 0, .int 0, .int 0, .int 0])), (q1, .inl (c1, 672, .inl (fun _ => 0))), (q2, .inl (c2, 672, .inl (fun _ => 0))), (q3, .inl (c3, 672, .inl (fun _ => 0)))]) (va_A [(h0, .inr (4, [.null, .null, .null, .int 0, .int 0, .int 0, .int 0]))] sz)) 3 2016 (va_A [(h0, .inr (4, [.null, .null, .null, .int 0, .int 0, .int 0, .int 0]))] sz) := by
  refine Met.ofW (cc := cX4_init) (maxL := 1) (ret := none) (by decide) rfl ?_
  intro p e s m args below meth c s₁ B hml hv
  obtain ⟨rfl, hsz, hP, hK, hD0⟩ := hv
  have hx := B.exec
  have hb := B.bytes
  have hr := B.returns
  have hts : ∀ w ∈ wsL_law, w.before _ s = true := fun w h => atoms_spec (ws := Cond.code yX4_init cX4_init 1 none :: wsL_law) B.pre w (List.mem_cons_of_mem _ h)
  have hown : s.vm.findClass RX4 = some m.cls := findClass_of_methodNamed B.named
  have hlocks := B.notSynchronized
  have hin : meth.name = "<init>" := (name_of_methodNamed B.named B.method).1
  subst hsz
  have hD := hD0.self (sz := s.heap.size)
  generalize hAe : va_A [(h0, .inr (4, [.null, .null, .null, .int 0, .int 0, .int 0, .int 0]))] s.heap.size = A at hD ⊢
  have hA : ∀ q : Nat, s.heap.size ≤ q → A q := fun q h => by rw [← hAe]; exact Or.inr h
  have hS : va_S A s.heap s.heap [] := va_S.rf
  have hP : va_P D vwCl [(h0, .inr (4, [.null, .null, .null, .int 0, .int 0, .int 0, .int 0]))] s.heap := hP
  have hl := lv_entry ([.ref h0]) (n := 1) (Nat.le_of_ble_eq_true rfl)
  rw [lg_entry_eq]
  generalize (lg_sl ([.ref h0]) ++ List.replicate (1 - (lg_sl ([.ref h0])).length) Slot.unset).toArray = ls at hl ⊢
  have hl : lv_has ls 1 [(0, .ref h0)] := hl
  refine lv_aload_n hx hb dX4_init_0 rfl (lv_at hl 0 rfl) ?_
  refine W.objInit hx hb hown (hts _ (inr5 _ (List.mem_of_getElem? (i := 2) rfl))) (hts _ (inr1 _ (List.mem_of_getElem? (i := 10) rfl))) (hts _ (inr1 _ (List.mem_of_getElem? (i := 11) rfl))) rfl (by rw [hml]; exact hl.1) rfl dX4_init_1 (Nat.le_of_ble_eq_true rfl) (Nat.le_of_ble_eq_true rfl) ?_
  refine W.eq (g2 := F0 m 4 ls []) rfl ?_
  refine lv_aload_n hx hb dX4_init_4 rfl (lv_at hl 0 rfl) ?_
  refine lv_sipush (v := (672 : Int32)) hx hb dX4_init_5 (by decide +kernel) ?_
  refine va_newa (atype := .int) (ty := .int) (N' := 672) (a0 := (672, .inl (fun _ => 0))) hx hb (hts _ (inr3 _ (List.mem_of_getElem? (i := 12) rfl))) rfl hK hP hD hS hA (fun _ => rfl) (by decide +kernel) (by decide +kernel) (Nat.le_of_ble_eq_true rfl) (Nat.le_of_ble_eq_true rfl) (Nat.le_of_ble_eq_true rfl) dX4_init_8 (fun q1 c1 H hK hP hD hS => ?_)
  have hP : va_P D vwCl [(h0, .inr (4, [.null, .null, .null, .int 0, .int 0, .int 0, .int 0])), (q1, .inl (c1, 672, .inl (fun _ => 0)))] H := hP
  have hD : va_D A [(h0, .inr (4, [.null, .null, .null, .int 0, .int 0, .int 0, .int 0])), (q1, .inl (c1, 672, .inl (fun _ => 0)))] := hD
  have hK : va_K D vwCl [(c1, .int)] s := hK
  refine va_putF (D := D) (ci := 4) (v := .ref q1) (ty := .array .int) (C := RX4) (T := TX4) (N := 7) hx hb hts in_wsX40 tyX4 tyX4_ok nmX4 hown hK hP hD hS 0 rfl rfl 0 (by decide) (hts _ (inr5 _ (List.mem_of_getElem? (i := 3) rfl))) (fun _ h9 => h9) rfl hin rfl (by decide +kernel) rfl rfl (Nat.le_of_ble_eq_true rfl) dX4_init_10 (fun H locs hP hD hS => ?_)
  have hP : va_P D vwCl [(h0, .inr (4, [.ref q1, .null, .null, .int 0, .int 0, .int 0, .int 0])), (q1, .inl (c1, 672, .inl (fun _ => 0)))] H := hP
  have hD : va_D A [(h0, .inr (4, [.ref q1, .null, .null, .int 0, .int 0, .int 0, .int 0])), (q1, .inl (c1, 672, .inl (fun _ => 0)))] := hD
  refine lv_aload_n hx hb dX4_init_13 rfl (lv_at hl 0 rfl) ?_
  refine lv_sipush (v := (672 : Int32)) hx hb dX4_init_14 (by decide +kernel) ?_
  refine va_newa (atype := .int) (ty := .int) (N' := 672) (a0 := (672, .inl (fun _ => 0))) hx hb (hts _ (inr3 _ (List.mem_of_getElem? (i := 12) rfl))) rfl hK hP hD hS hA (fun _ => rfl) (by decide +kernel) (by decide +kernel) (Nat.le_of_ble_eq_true rfl) (Nat.le_of_ble_eq_true rfl) (Nat.le_of_ble_eq_true rfl) dX4_init_17 (fun q2 c2 H hK hP hD hS => ?_)
  have hP : va_P D vwCl [(h0, .inr (4, [.ref q1, .null, .null, .int 0, .int 0, .int 0, .int 0])), (q1, .inl (c1, 672, .inl (fun _ => 0))), (q2, .inl (c2, 672, .inl (fun _ => 0)))] H := hP
  have hD : va_D A [(h0, .inr (4, [.ref q1, .null, .null, .int 0, .int 0, .int 0, .int 0])), (q1, .inl (c1, 672, .inl (fun _ => 0))), (q2, .inl (c2, 672, .inl (fun _ => 0)))] := hD
  have hK : va_K D vwCl [(c1, .int), (c2, .int)] s := hK
  refine va_putF (D := D) (ci := 4) (v := .ref q2) (ty := .array .int) (C := RX4) (T := TX4) (N := 7) hx hb hts in_wsX40 tyX4 tyX4_ok nmX4 hown hK hP hD hS 0 rfl rfl 1 (by decide) (hts _ (inr5 _ (List.mem_of_getElem? (i := 4) rfl))) (fun _ h9 => h9) rfl hin rfl (by decide +kernel) rfl rfl (Nat.le_of_ble_eq_true rfl) dX4_init_19 (fun H locs hP hD hS => ?_)
  have hP : va_P D vwCl [(h0, .inr (4, [.ref q1, .ref q2, .null, .int 0, .int 0, .int 0, .int 0])), (q1, .inl (c1, 672, .inl (fun _ => 0))), (q2, .inl (c2, 672, .inl (fun _ => 0)))] H := hP
  have hD : va_D A [(h0, .inr (4, [.ref q1, .ref q2, .null, .int 0, .int 0, .int 0, .int 0])), (q1, .inl (c1, 672, .inl (fun _ => 0))), (q2, .inl (c2, 672, .inl (fun _ => 0)))] := hD
  refine lv_aload_n hx hb dX4_init_22 rfl (lv_at hl 0 rfl) ?_
  refine lv_sipush (v := (672 : Int32)) hx hb dX4_init_23 (by decide +kernel) ?_
  refine va_newa (atype := .int) (ty := .int) (N' := 672) (a0 := (672, .inl (fun _ => 0))) hx hb (hts _ (inr3 _ (List.mem_of_getElem? (i := 12) rfl))) rfl hK hP hD hS hA (fun _ => rfl) (by decide +kernel) (by decide +kernel) (Nat.le_of_ble_eq_true rfl) (Nat.le_of_ble_eq_true rfl) (Nat.le_of_ble_eq_true rfl) dX4_init_26 (fun q3 c3 H hK hP hD hS => ?_)
  have hP : va_P D vwCl [(h0, .inr (4, [.ref q1, .ref q2, .null, .int 0, .int 0, .int 0, .int 0])), (q1, .inl (c1, 672, .inl (fun _ => 0))), (q2, .inl (c2, 672, .inl (fun _ => 0))), (q3, .inl (c3, 672, .inl (fun _ => 0)))] H := hP
  have hD : va_D A [(h0, .inr (4, [.ref q1, .ref q2, .null, .int 0, .int 0, .int 0, .int 0])), (q1, .inl (c1, 672, .inl (fun _ => 0))), (q2, .inl (c2, 672, .inl (fun _ => 0))), (q3, .inl (c3, 672, .inl (fun _ => 0)))] := hD
  have hK : va_K D vwCl [(c1, .int), (c2, .int), (c3, .int)] s := hK
  refine va_putF (D := D) (ci := 4) (v := .ref q3) (ty := .array .int) (C := RX4) (T := TX4) (N := 7) hx hb hts in_wsX40 tyX4 tyX4_ok nmX4 hown hK hP hD hS 0 rfl rfl 2 (by decide) (hts _ (inr5 _ (List.mem_of_getElem? (i := 5) rfl))) (fun _ h9 => h9) rfl hin rfl (by decide +kernel) rfl rfl (Nat.le_of_ble_eq_true rfl) dX4_init_28 (fun H locs hP hD hS => ?_)
  have hP : va_P D vwCl [(h0, .inr (4, [.ref q1, .ref q2, .ref q3, .int 0, .int 0, .int 0, .int 0])), (q1, .inl (c1, 672, .inl (fun _ => 0))), (q2, .inl (c2, 672, .inl (fun _ => 0))), (q3, .inl (c3, 672, .inl (fun _ => 0)))] H := hP
  have hD : va_D A [(h0, .inr (4, [.ref q1, .ref q2, .ref q3, .int 0, .int 0, .int 0, .int 0])), (q1, .inl (c1, 672, .inl (fun _ => 0))), (q2, .inl (c2, 672, .inl (fun _ => 0))), (q3, .inl (c3, 672, .inl (fun _ => 0)))] := hD
  refine W.widen (k := 3) (n := 2016) (Nat.le_of_ble_eq_true rfl) (Nat.le_of_ble_eq_true rfl) ?_
  exact W.vret hx hb hr (fun t ht hW => ⟨⟨(), rfl, trivial, q1, c1, q2, c2, q3, c3, by rw [ht]; exact hP, va_K.moved hW.alike hK, hD⟩, hS.F ht⟩) hS.2.2 dX4_init_31
set_option maxHeartbeats 4000000 in
set_option maxRecDepth 100000 in
theorem i_X8 (l : Launch) (D : va_G) (h0 sz : Nat) : Met l yX8_init (Cond.code yX8_init cX8_init 1 none :: wsL_law) { frames := 1, cells := 0, slots := 0, locals := 12 } (va_Pc [.ref h0] (fun U => U.heap.size = sz ∧ va_P D vwCl [(h0, .inr (8, [.int 0, .int 0, .int 0]))] U.heap ∧ va_K D vwCl [] U ∧ va_D (fun _ => True) [(h0, .inr (8, [.int 0, .int 0, .int 0]))])) (va_Qv (fun _ : Unit => True) (fun _ t => va_P D vwCl [(h0, .inr (8, [.int ((-1) : Int32), .int 0, .int 0]))] t.heap ∧ va_K D vwCl [] t ∧ va_D (va_A [(h0, .inr (8, [.int 0, .int 0, .int 0]))] sz) [(h0, .inr (8, [.int ((-1) : Int32), .int 0, .int 0]))]) (va_A [(h0, .inr (8, [.int 0, .int 0, .int 0]))] sz)) 0 0 (va_A [(h0, .inr (8, [.int 0, .int 0, .int 0]))] sz) := by
  refine Met.ofW (cc := cX8_init) (maxL := 1) (ret := none) (by decide) rfl ?_
  intro p e s m args below meth c s₁ B hml hv
  obtain ⟨rfl, hsz, hP, hK, hD0⟩ := hv
  have hx := B.exec
  have hb := B.bytes
  have hr := B.returns
  have hts : ∀ w ∈ wsL_law, w.before _ s = true := fun w h => atoms_spec (ws := Cond.code yX8_init cX8_init 1 none :: wsL_law) B.pre w (List.mem_cons_of_mem _ h)
  have hown : s.vm.findClass RX8 = some m.cls := findClass_of_methodNamed B.named
  have hlocks := B.notSynchronized
  have hin : meth.name = "<init>" := (name_of_methodNamed B.named B.method).1
  subst hsz
  have hD := hD0.self (sz := s.heap.size)
  generalize hAe : va_A [(h0, .inr (8, [.int 0, .int 0, .int 0]))] s.heap.size = A at hD ⊢
  have hA : ∀ q : Nat, s.heap.size ≤ q → A q := fun q h => by rw [← hAe]; exact Or.inr h
  have hS : va_S A s.heap s.heap [] := va_S.rf
  have hP : va_P D vwCl [(h0, .inr (8, [.int 0, .int 0, .int 0]))] s.heap := hP
  have hl := lv_entry ([.ref h0]) (n := 1) (Nat.le_of_ble_eq_true rfl)
  rw [lg_entry_eq]
  generalize (lg_sl ([.ref h0]) ++ List.replicate (1 - (lg_sl ([.ref h0])).length) Slot.unset).toArray = ls at hl ⊢
  have hl : lv_has ls 1 [(0, .ref h0)] := hl
  refine lv_aload_n hx hb dX8_init_0 rfl (lv_at hl 0 rfl) ?_
  refine W.objInit hx hb hown (hts _ (inr5 _ (List.mem_of_getElem? (i := 9) rfl))) (hts _ (inr1 _ (List.mem_of_getElem? (i := 10) rfl))) (hts _ (inr1 _ (List.mem_of_getElem? (i := 11) rfl))) rfl (by rw [hml]; exact hl.1) rfl dX8_init_1 (Nat.le_of_ble_eq_true rfl) (Nat.le_of_ble_eq_true rfl) ?_
  refine W.eq (g2 := F0 m 4 ls []) rfl ?_
  refine lv_aload_n hx hb dX8_init_4 rfl (lv_at hl 0 rfl) ?_
  refine lv_iconst (v := ((-1) : Int32)) hx hb dX8_init_5 (by decide) ?_
  refine va_put (D := D) (ci := 8) (v := .int ((-1) : Int32)) (ty := .int) (C := RX8) (T := TX8) (N := 3) hx hb hts in_wsX80 tyX8 tyX8_ok nmX8 hown hK hP hD hS 0 rfl rfl 0 (by decide) (hts _ (inr5 _ (List.mem_of_getElem? (i := 10) rfl))) (fun _ h9 => h9) rfl (by decide +kernel) rfl rfl (Nat.le_of_ble_eq_true rfl) dX8_init_6 (fun H locs hP hD hS => ?_)
  have hP : va_P D vwCl [(h0, .inr (8, [.int ((-1) : Int32), .int 0, .int 0]))] H := hP
  have hD : va_D A [(h0, .inr (8, [.int ((-1) : Int32), .int 0, .int 0]))] := hD
  refine W.widen (k := 0) (n := 0) (Nat.le_of_ble_eq_true rfl) (Nat.le_of_ble_eq_true rfl) ?_
  exact W.vret hx hb hr (fun t ht hW => ⟨⟨(), rfl, trivial, by rw [ht]; exact hP, va_K.moved hW.alike hK, hD⟩, hS.F ht⟩) hS.2.2 dX8_init_9
set_option maxHeartbeats 4000000 in
set_option maxRecDepth 100000 in
theorem i_X10 (l : Launch) (D : va_G) (h0 sz : Nat) : Met l yX10_init (Cond.code yX10_init cX10_init 1 none :: wsL_law) { frames := 1, cells := 14, slots := 5493, locals := 12 } (va_Pc [.ref h0] (fun U => U.heap.size = sz ∧ va_P D vwCl [(h0, .inr (10, [.int 0, .null, .int 0, .int 0, .null, .int 0, .null, .int 0, .int 0, .int 0, .int 0, .int 0, .int 0, .int 0, .int 0, .null, .int 0, .null, .null, .int 0, .null, .null, .null, .null, .int 0, .null, .int 0, .null, .null, .int 0, .int 0, .null, .long 0]))] U.heap ∧ va_K D vwCl [] U ∧ va_D (fun _ => True) [(h0, .inr (10, [.int 0, .null, .int 0, .int 0, .null, .int 0, .null, .int 0, .int 0, .int 0, .int 0, .int 0, .int 0, .int 0, .int 0, .null, .int 0, .null, .null, .int 0, .null, .null, .null, .null, .int 0, .null, .int 0, .null, .null, .int 0, .int 0, .null, .long 0]))])) (va_Qv (fun _ : Unit => True) (fun _ t => ∃ (q1 : Nat) (c1 : ClassId), ∃ (q2 : Nat) (c2 : ClassId), ∃ (q3 : Nat) (c3 : ClassId), ∃ (q4 : Nat) (c4 : ClassId), ∃ (q5 : Nat) (c5 : ClassId), ∃ (q6 : Nat) (c6 : ClassId), ∃ (q7 : Nat) (c7 : ClassId), ∃ (q8 : Nat) (c8 : ClassId), ∃ (q9 : Nat) (c9 : ClassId), ∃ (q10 : Nat) (c10 : ClassId), ∃ (q11 : Nat) (c11 : ClassId), ∃ (q12 : Nat) (c12 : ClassId), ∃ (q13 : Nat) (c13 : ClassId), ∃ (q14 : Nat) (c14 : ClassId), va_P D vwCl [(h0, .inr (10, [.int 0, .ref q1, .int 0, .int 0, .ref q2, .int 0, .ref q3, .int ((-1) : Int32), .int 0, .int 0, .int 0, .int 0, .int 0, .int 0, .int 0, .ref q4, .int 0, .ref q5, .ref q6, .int ((-1) : Int32), .ref q7, .ref q8, .ref q9, .ref q10, .int 0, .ref q11, .int 0, .ref q12, .ref q13, .int 0, .int 0, .ref q14, .long 0])), (q1, .inl (c1, 40, .inl (fun _ => 0))), (q2, .inl (c2, 24, .inl (fun _ => 0))), (q3, .inl (c3, 5, .inl (fun _ => 0))), (q4, .inl (c4, 24, .inl (fun _ => 0))), (q5, .inl (c5, 80, .inl (fun _ => 0))), (q6, .inl (c6, 80, .inl (fun _ => 0))), (q7, .inl (c7, 5, .inl (fun _ => 0))), (q8, .inl (c8, 5, .inl (fun _ => 0))), (q9, .inl (c9, 64, .inr (.inl (fun _ => 0)))), (q10, .inl (c10, 64, .inr (.inl (fun _ => 0)))), (q11, .inl (c11, 128, .inl (fun _ => 0))), (q12, .inl (c12, 2187, .inl (fun _ => 0))), (q13, .inl (c13, 2187, .inl (fun _ => 0))), (q14, .inl (c14, 600, .inl (fun _ => 0)))] t.heap ∧ va_K D vwCl [(c1, .int), (c2, .int), (c3, .int), (c4, .int), (c5, .int), (c6, .int), (c7, .int), (c8, .int), (c9, .long), (c10, .long), (c11, .int), (c12, .int), (c13, .int), (c14, .int)] t ∧ va_D (va_A [(h0, .inr (10, [.int 0, .null, .int 0, .int 0, .null, .int 0, .null, .int 0, .int 0, .int 0, .int 0, .int 0, .int 0, .int 0, .int 0, .null, .int 0, .null, .null, .int 0, .null, .null, .null, .null, .int 0, .null, .int 0, .null, .null, .int 0, .int 0, .null, .long 0]))] sz) [(h0, .inr (10, [.int 0, .ref q1, .int 0, .int 0, .ref q2, .int 0, .ref q3, .int ((-1) : Int32), .int 0, .int 0, .int 0, .int 0, .int 0, .int 0, .int 0, .ref q4, .int 0, .ref q5, .ref q6, .int ((-1) : Int32), .ref q7, .ref q8, .ref q9, .ref q10, .int 0, .ref q11, .int 0, .ref q12, .ref q13, .int 0, .int 0, .ref q14, .long 0])), (q1, .inl (c1, 40, .inl (fun _ => 0))), (q2, .inl (c2, 24, .inl (fun _ => 0))), (q3, .inl (c3, 5, .inl (fun _ => 0))), (q4, .inl (c4, 24, .inl (fun _ => 0))), (q5, .inl (c5, 80, .inl (fun _ => 0))), (q6, .inl (c6, 80, .inl (fun _ => 0))), (q7, .inl (c7, 5, .inl (fun _ => 0))), (q8, .inl (c8, 5, .inl (fun _ => 0))), (q9, .inl (c9, 64, .inr (.inl (fun _ => 0)))), (q10, .inl (c10, 64, .inr (.inl (fun _ => 0)))), (q11, .inl (c11, 128, .inl (fun _ => 0))), (q12, .inl (c12, 2187, .inl (fun _ => 0))), (q13, .inl (c13, 2187, .inl (fun _ => 0))), (q14, .inl (c14, 600, .inl (fun _ => 0)))]) (va_A [(h0, .inr (10, [.int 0, .null, .int 0, .int 0, .null, .int 0, .null, .int 0, .int 0, .int 0, .int 0, .int 0, .int 0, .int 0, .int 0, .null, .int 0, .null, .null, .int 0, .null, .null, .null, .null, .int 0, .null, .int 0, .null, .null, .int 0, .int 0, .null, .long 0]))] sz)) 14 5493 (va_A [(h0, .inr (10, [.int 0, .null, .int 0, .int 0, .null, .int 0, .null, .int 0, .int 0, .int 0, .int 0, .int 0, .int 0, .int 0, .int 0, .null, .int 0, .null, .null, .int 0, .null, .null, .null, .null, .int 0, .null, .int 0, .null, .null, .int 0, .int 0, .null, .long 0]))] sz) := by
  refine Met.ofW (cc := cX10_init) (maxL := 1) (ret := none) (by decide) rfl ?_
  intro p e s m args below meth c s₁ B hml hv
  obtain ⟨rfl, hsz, hP, hK, hD0⟩ := hv
  have hx := B.exec
  have hb := B.bytes
  have hr := B.returns
  have hts : ∀ w ∈ wsL_law, w.before _ s = true := fun w h => atoms_spec (ws := Cond.code yX10_init cX10_init 1 none :: wsL_law) B.pre w (List.mem_cons_of_mem _ h)
  have hown : s.vm.findClass RX10 = some m.cls := findClass_of_methodNamed B.named
  have hlocks := B.notSynchronized
  have hin : meth.name = "<init>" := (name_of_methodNamed B.named B.method).1
  subst hsz
  have hD := hD0.self (sz := s.heap.size)
  generalize hAe : va_A [(h0, .inr (10, [.int 0, .null, .int 0, .int 0, .null, .int 0, .null, .int 0, .int 0, .int 0, .int 0, .int 0, .int 0, .int 0, .int 0, .null, .int 0, .null, .null, .int 0, .null, .null, .null, .null, .int 0, .null, .int 0, .null, .null, .int 0, .int 0, .null, .long 0]))] s.heap.size = A at hD ⊢
  have hA : ∀ q : Nat, s.heap.size ≤ q → A q := fun q h => by rw [← hAe]; exact Or.inr h
  have hS : va_S A s.heap s.heap [] := va_S.rf
  have hP : va_P D vwCl [(h0, .inr (10, [.int 0, .null, .int 0, .int 0, .null, .int 0, .null, .int 0, .int 0, .int 0, .int 0, .int 0, .int 0, .int 0, .int 0, .null, .int 0, .null, .null, .int 0, .null, .null, .null, .null, .int 0, .null, .int 0, .null, .null, .int 0, .int 0, .null, .long 0]))] s.heap := hP
  have hl := lv_entry ([.ref h0]) (n := 1) (Nat.le_of_ble_eq_true rfl)
  rw [lg_entry_eq]
  generalize (lg_sl ([.ref h0]) ++ List.replicate (1 - (lg_sl ([.ref h0])).length) Slot.unset).toArray = ls at hl ⊢
  have hl : lv_has ls 1 [(0, .ref h0)] := hl
  refine lv_aload_n hx hb dX10_init_0 rfl (lv_at hl 0 rfl) ?_
  refine W.objInit hx hb hown (hts _ (inr5 _ (List.mem_of_getElem? (i := 14) rfl))) (hts _ (inr1 _ (List.mem_of_getElem? (i := 10) rfl))) (hts _ (inr1 _ (List.mem_of_getElem? (i := 11) rfl))) rfl (by rw [hml]; exact hl.1) rfl dX10_init_1 (Nat.le_of_ble_eq_true rfl) (Nat.le_of_ble_eq_true rfl) ?_
  refine W.eq (g2 := F0 m 4 ls []) rfl ?_
  refine lv_aload_n hx hb dX10_init_4 rfl (lv_at hl 0 rfl) ?_
  refine lv_bipush (v := (40 : Int32)) hx hb dX10_init_5 (by decide +kernel) ?_
  refine va_newa (atype := .int) (ty := .int) (N' := 40) (a0 := (40, .inl (fun _ => 0))) hx hb (hts _ (inr3 _ (List.mem_of_getElem? (i := 12) rfl))) rfl hK hP hD hS hA (fun _ => rfl) (by decide +kernel) (by decide +kernel) (Nat.le_of_ble_eq_true rfl) (Nat.le_of_ble_eq_true rfl) (Nat.le_of_ble_eq_true rfl) dX10_init_7 (fun q1 c1 H hK hP hD hS => ?_)
  have hP : va_P D vwCl [(h0, .inr (10, [.int 0, .null, .int 0, .int 0, .null, .int 0, .null, .int 0, .int 0, .int 0, .int 0, .int 0, .int 0, .int 0, .int 0, .null, .int 0, .null, .null, .int 0, .null, .null, .null, .null, .int 0, .null, .int 0, .null, .null, .int 0, .int 0, .null, .long 0])), (q1, .inl (c1, 40, .inl (fun _ => 0)))] H := hP
  have hD : va_D A [(h0, .inr (10, [.int 0, .null, .int 0, .int 0, .null, .int 0, .null, .int 0, .int 0, .int 0, .int 0, .int 0, .int 0, .int 0, .int 0, .null, .int 0, .null, .null, .int 0, .null, .null, .null, .null, .int 0, .null, .int 0, .null, .null, .int 0, .int 0, .null, .long 0])), (q1, .inl (c1, 40, .inl (fun _ => 0)))] := hD
  have hK : va_K D vwCl [(c1, .int)] s := hK
  refine va_putF (D := D) (ci := 10) (v := .ref q1) (ty := .array .int) (C := RX10) (T := TX10) (N := 33) hx hb hts in_wsX100 tyX10 tyX10_ok nmX10 hown hK hP hD hS 0 rfl rfl 1 (by decide) (hts _ (inr5 _ (List.mem_of_getElem? (i := 15) rfl))) (fun _ h9 => h9) rfl hin rfl (by decide +kernel) rfl rfl (Nat.le_of_ble_eq_true rfl) dX10_init_9 (fun H locs hP hD hS => ?_)
  have hP : va_P D vwCl [(h0, .inr (10, [.int 0, .ref q1, .int 0, .int 0, .null, .int 0, .null, .int 0, .int 0, .int 0, .int 0, .int 0, .int 0, .int 0, .int 0, .null, .int 0, .null, .null, .int 0, .null, .null, .null, .null, .int 0, .null, .int 0, .null, .null, .int 0, .int 0, .null, .long 0])), (q1, .inl (c1, 40, .inl (fun _ => 0)))] H := hP
  have hD : va_D A [(h0, .inr (10, [.int 0, .ref q1, .int 0, .int 0, .null, .int 0, .null, .int 0, .int 0, .int 0, .int 0, .int 0, .int 0, .int 0, .int 0, .null, .int 0, .null, .null, .int 0, .null, .null, .null, .null, .int 0, .null, .int 0, .null, .null, .int 0, .int 0, .null, .long 0])), (q1, .inl (c1, 40, .inl (fun _ => 0)))] := hD
  refine lv_aload_n hx hb dX10_init_12 rfl (lv_at hl 0 rfl) ?_
  refine lv_bipush (v := (24 : Int32)) hx hb dX10_init_13 (by decide +kernel) ?_
  refine va_newa (atype := .int) (ty := .int) (N' := 24) (a0 := (24, .inl (fun _ => 0))) hx hb (hts _ (inr3 _ (List.mem_of_getElem? (i := 12) rfl))) rfl hK hP hD hS hA (fun _ => rfl) (by decide +kernel) (by decide +kernel) (Nat.le_of_ble_eq_true rfl) (Nat.le_of_ble_eq_true rfl) (Nat.le_of_ble_eq_true rfl) dX10_init_15 (fun q2 c2 H hK hP hD hS => ?_)
  have hP : va_P D vwCl [(h0, .inr (10, [.int 0, .ref q1, .int 0, .int 0, .null, .int 0, .null, .int 0, .int 0, .int 0, .int 0, .int 0, .int 0, .int 0, .int 0, .null, .int 0, .null, .null, .int 0, .null, .null, .null, .null, .int 0, .null, .int 0, .null, .null, .int 0, .int 0, .null, .long 0])), (q1, .inl (c1, 40, .inl (fun _ => 0))), (q2, .inl (c2, 24, .inl (fun _ => 0)))] H := hP
  have hD : va_D A [(h0, .inr (10, [.int 0, .ref q1, .int 0, .int 0, .null, .int 0, .null, .int 0, .int 0, .int 0, .int 0, .int 0, .int 0, .int 0, .int 0, .null, .int 0, .null, .null, .int 0, .null, .null, .null, .null, .int 0, .null, .int 0, .null, .null, .int 0, .int 0, .null, .long 0])), (q1, .inl (c1, 40, .inl (fun _ => 0))), (q2, .inl (c2, 24, .inl (fun _ => 0)))] := hD
  have hK : va_K D vwCl [(c1, .int), (c2, .int)] s := hK
  refine va_putF (D := D) (ci := 10) (v := .ref q2) (ty := .array .int) (C := RX10) (T := TX10) (N := 33) hx hb hts in_wsX100 tyX10 tyX10_ok nmX10 hown hK hP hD hS 0 rfl rfl 4 (by decide) (hts _ (inr5 _ (List.mem_of_getElem? (i := 16) rfl))) (fun _ h9 => h9) rfl hin rfl (by decide +kernel) rfl rfl (Nat.le_of_ble_eq_true rfl) dX10_init_17 (fun H locs hP hD hS => ?_)
  have hP : va_P D vwCl [(h0, .inr (10, [.int 0, .ref q1, .int 0, .int 0, .ref q2, .int 0, .null, .int 0, .int 0, .int 0, .int 0, .int 0, .int 0, .int 0, .int 0, .null, .int 0, .null, .null, .int 0, .null, .null, .null, .null, .int 0, .null, .int 0, .null, .null, .int 0, .int 0, .null, .long 0])), (q1, .inl (c1, 40, .inl (fun _ => 0))), (q2, .inl (c2, 24, .inl (fun _ => 0)))] H := hP
  have hD : va_D A [(h0, .inr (10, [.int 0, .ref q1, .int 0, .int 0, .ref q2, .int 0, .null, .int 0, .int 0, .int 0, .int 0, .int 0, .int 0, .int 0, .int 0, .null, .int 0, .null, .null, .int 0, .null, .null, .null, .null, .int 0, .null, .int 0, .null, .null, .int 0, .int 0, .null, .long 0])), (q1, .inl (c1, 40, .inl (fun _ => 0))), (q2, .inl (c2, 24, .inl (fun _ => 0)))] := hD
  refine lv_aload_n hx hb dX10_init_20 rfl (lv_at hl 0 rfl) ?_
  refine lv_iconst (v := (5 : Int32)) hx hb dX10_init_21 (by decide) ?_
  refine va_newa (atype := .int) (ty := .int) (N' := 5) (a0 := (5, .inl (fun _ => 0))) hx hb (hts _ (inr3 _ (List.mem_of_getElem? (i := 12) rfl))) rfl hK hP hD hS hA (fun _ => rfl) (by decide +kernel) (by decide +kernel) (Nat.le_of_ble_eq_true rfl) (Nat.le_of_ble_eq_true rfl) (Nat.le_of_ble_eq_true rfl) dX10_init_22 (fun q3 c3 H hK hP hD hS => ?_)
  have hP : va_P D vwCl [(h0, .inr (10, [.int 0, .ref q1, .int 0, .int 0, .ref q2, .int 0, .null, .int 0, .int 0, .int 0, .int 0, .int 0, .int 0, .int 0, .int 0, .null, .int 0, .null, .null, .int 0, .null, .null, .null, .null, .int 0, .null, .int 0, .null, .null, .int 0, .int 0, .null, .long 0])), (q1, .inl (c1, 40, .inl (fun _ => 0))), (q2, .inl (c2, 24, .inl (fun _ => 0))), (q3, .inl (c3, 5, .inl (fun _ => 0)))] H := hP
  have hD : va_D A [(h0, .inr (10, [.int 0, .ref q1, .int 0, .int 0, .ref q2, .int 0, .null, .int 0, .int 0, .int 0, .int 0, .int 0, .int 0, .int 0, .int 0, .null, .int 0, .null, .null, .int 0, .null, .null, .null, .null, .int 0, .null, .int 0, .null, .null, .int 0, .int 0, .null, .long 0])), (q1, .inl (c1, 40, .inl (fun _ => 0))), (q2, .inl (c2, 24, .inl (fun _ => 0))), (q3, .inl (c3, 5, .inl (fun _ => 0)))] := hD
  have hK : va_K D vwCl [(c1, .int), (c2, .int), (c3, .int)] s := hK
  refine va_putF (D := D) (ci := 10) (v := .ref q3) (ty := .array .int) (C := RX10) (T := TX10) (N := 33) hx hb hts in_wsX100 tyX10 tyX10_ok nmX10 hown hK hP hD hS 0 rfl rfl 6 (by decide) (hts _ (inr5 _ (List.mem_of_getElem? (i := 17) rfl))) (fun _ h9 => h9) rfl hin rfl (by decide +kernel) rfl rfl (Nat.le_of_ble_eq_true rfl) dX10_init_24 (fun H locs hP hD hS => ?_)
  have hP : va_P D vwCl [(h0, .inr (10, [.int 0, .ref q1, .int 0, .int 0, .ref q2, .int 0, .ref q3, .int 0, .int 0, .int 0, .int 0, .int 0, .int 0, .int 0, .int 0, .null, .int 0, .null, .null, .int 0, .null, .null, .null, .null, .int 0, .null, .int 0, .null, .null, .int 0, .int 0, .null, .long 0])), (q1, .inl (c1, 40, .inl (fun _ => 0))), (q2, .inl (c2, 24, .inl (fun _ => 0))), (q3, .inl (c3, 5, .inl (fun _ => 0)))] H := hP
  have hD : va_D A [(h0, .inr (10, [.int 0, .ref q1, .int 0, .int 0, .ref q2, .int 0, .ref q3, .int 0, .int 0, .int 0, .int 0, .int 0, .int 0, .int 0, .int 0, .null, .int 0, .null, .null, .int 0, .null, .null, .null, .null, .int 0, .null, .int 0, .null, .null, .int 0, .int 0, .null, .long 0])), (q1, .inl (c1, 40, .inl (fun _ => 0))), (q2, .inl (c2, 24, .inl (fun _ => 0))), (q3, .inl (c3, 5, .inl (fun _ => 0)))] := hD
  refine lv_aload_n hx hb dX10_init_27 rfl (lv_at hl 0 rfl) ?_
  refine lv_iconst (v := ((-1) : Int32)) hx hb dX10_init_28 (by decide) ?_
  refine va_put (D := D) (ci := 10) (v := .int ((-1) : Int32)) (ty := .int) (C := RX10) (T := TX10) (N := 33) hx hb hts in_wsX100 tyX10 tyX10_ok nmX10 hown hK hP hD hS 0 rfl rfl 7 (by decide) (hts _ (inr5 _ (List.mem_of_getElem? (i := 18) rfl))) (fun _ h9 => h9) rfl (by decide +kernel) rfl rfl (Nat.le_of_ble_eq_true rfl) dX10_init_29 (fun H locs hP hD hS => ?_)
  have hP : va_P D vwCl [(h0, .inr (10, [.int 0, .ref q1, .int 0, .int 0, .ref q2, .int 0, .ref q3, .int ((-1) : Int32), .int 0, .int 0, .int 0, .int 0, .int 0, .int 0, .int 0, .null, .int 0, .null, .null, .int 0, .null, .null, .null, .null, .int 0, .null, .int 0, .null, .null, .int 0, .int 0, .null, .long 0])), (q1, .inl (c1, 40, .inl (fun _ => 0))), (q2, .inl (c2, 24, .inl (fun _ => 0))), (q3, .inl (c3, 5, .inl (fun _ => 0)))] H := hP
  have hD : va_D A [(h0, .inr (10, [.int 0, .ref q1, .int 0, .int 0, .ref q2, .int 0, .ref q3, .int ((-1) : Int32), .int 0, .int 0, .int 0, .int 0, .int 0, .int 0, .int 0, .null, .int 0, .null, .null, .int 0, .null, .null, .null, .null, .int 0, .null, .int 0, .null, .null, .int 0, .int 0, .null, .long 0])), (q1, .inl (c1, 40, .inl (fun _ => 0))), (q2, .inl (c2, 24, .inl (fun _ => 0))), (q3, .inl (c3, 5, .inl (fun _ => 0)))] := hD
  refine lv_aload_n hx hb dX10_init_32 rfl (lv_at hl 0 rfl) ?_
  refine lv_bipush (v := (24 : Int32)) hx hb dX10_init_33 (by decide +kernel) ?_
  refine va_newa (atype := .int) (ty := .int) (N' := 24) (a0 := (24, .inl (fun _ => 0))) hx hb (hts _ (inr3 _ (List.mem_of_getElem? (i := 12) rfl))) rfl hK hP hD hS hA (fun _ => rfl) (by decide +kernel) (by decide +kernel) (Nat.le_of_ble_eq_true rfl) (Nat.le_of_ble_eq_true rfl) (Nat.le_of_ble_eq_true rfl) dX10_init_35 (fun q4 c4 H hK hP hD hS => ?_)
  have hP : va_P D vwCl [(h0, .inr (10, [.int 0, .ref q1, .int 0, .int 0, .ref q2, .int 0, .ref q3, .int ((-1) : Int32), .int 0, .int 0, .int 0, .int 0, .int 0, .int 0, .int 0, .null, .int 0, .null, .null, .int 0, .null, .null, .null, .null, .int 0, .null, .int 0, .null, .null, .int 0, .int 0, .null, .long 0])), (q1, .inl (c1, 40, .inl (fun _ => 0))), (q2, .inl (c2, 24, .inl (fun _ => 0))), (q3, .inl (c3, 5, .inl (fun _ => 0))), (q4, .inl (c4, 24, .inl (fun _ => 0)))] H := hP
  have hD : va_D A [(h0, .inr (10, [.int 0, .ref q1, .int 0, .int 0, .ref q2, .int 0, .ref q3, .int ((-1) : Int32), .int 0, .int 0, .int 0, .int 0, .int 0, .int 0, .int 0, .null, .int 0, .null, .null, .int 0, .null, .null, .null, .null, .int 0, .null, .int 0, .null, .null, .int 0, .int 0, .null, .long 0])), (q1, .inl (c1, 40, .inl (fun _ => 0))), (q2, .inl (c2, 24, .inl (fun _ => 0))), (q3, .inl (c3, 5, .inl (fun _ => 0))), (q4, .inl (c4, 24, .inl (fun _ => 0)))] := hD
  have hK : va_K D vwCl [(c1, .int), (c2, .int), (c3, .int), (c4, .int)] s := hK
  refine va_putF (D := D) (ci := 10) (v := .ref q4) (ty := .array .int) (C := RX10) (T := TX10) (N := 33) hx hb hts in_wsX100 tyX10 tyX10_ok nmX10 hown hK hP hD hS 0 rfl rfl 15 (by decide) (hts _ (inr5 _ (List.mem_of_getElem? (i := 19) rfl))) (fun _ h9 => h9) rfl hin rfl (by decide +kernel) rfl rfl (Nat.le_of_ble_eq_true rfl) dX10_init_37 (fun H locs hP hD hS => ?_)
  have hP : va_P D vwCl [(h0, .inr (10, [.int 0, .ref q1, .int 0, .int 0, .ref q2, .int 0, .ref q3, .int ((-1) : Int32), .int 0, .int 0, .int 0, .int 0, .int 0, .int 0, .int 0, .ref q4, .int 0, .null, .null, .int 0, .null, .null, .null, .null, .int 0, .null, .int 0, .null, .null, .int 0, .int 0, .null, .long 0])), (q1, .inl (c1, 40, .inl (fun _ => 0))), (q2, .inl (c2, 24, .inl (fun _ => 0))), (q3, .inl (c3, 5, .inl (fun _ => 0))), (q4, .inl (c4, 24, .inl (fun _ => 0)))] H := hP
  have hD : va_D A [(h0, .inr (10, [.int 0, .ref q1, .int 0, .int 0, .ref q2, .int 0, .ref q3, .int ((-1) : Int32), .int 0, .int 0, .int 0, .int 0, .int 0, .int 0, .int 0, .ref q4, .int 0, .null, .null, .int 0, .null, .null, .null, .null, .int 0, .null, .int 0, .null, .null, .int 0, .int 0, .null, .long 0])), (q1, .inl (c1, 40, .inl (fun _ => 0))), (q2, .inl (c2, 24, .inl (fun _ => 0))), (q3, .inl (c3, 5, .inl (fun _ => 0))), (q4, .inl (c4, 24, .inl (fun _ => 0)))] := hD
  refine lv_aload_n hx hb dX10_init_40 rfl (lv_at hl 0 rfl) ?_
  refine lv_bipush (v := (80 : Int32)) hx hb dX10_init_41 (by decide +kernel) ?_
  refine va_newa (atype := .int) (ty := .int) (N' := 80) (a0 := (80, .inl (fun _ => 0))) hx hb (hts _ (inr3 _ (List.mem_of_getElem? (i := 12) rfl))) rfl hK hP hD hS hA (fun _ => rfl) (by decide +kernel) (by decide +kernel) (Nat.le_of_ble_eq_true rfl) (Nat.le_of_ble_eq_true rfl) (Nat.le_of_ble_eq_true rfl) dX10_init_43 (fun q5 c5 H hK hP hD hS => ?_)
  have hP : va_P D vwCl [(h0, .inr (10, [.int 0, .ref q1, .int 0, .int 0, .ref q2, .int 0, .ref q3, .int ((-1) : Int32), .int 0, .int 0, .int 0, .int 0, .int 0, .int 0, .int 0, .ref q4, .int 0, .null, .null, .int 0, .null, .null, .null, .null, .int 0, .null, .int 0, .null, .null, .int 0, .int 0, .null, .long 0])), (q1, .inl (c1, 40, .inl (fun _ => 0))), (q2, .inl (c2, 24, .inl (fun _ => 0))), (q3, .inl (c3, 5, .inl (fun _ => 0))), (q4, .inl (c4, 24, .inl (fun _ => 0))), (q5, .inl (c5, 80, .inl (fun _ => 0)))] H := hP
  have hD : va_D A [(h0, .inr (10, [.int 0, .ref q1, .int 0, .int 0, .ref q2, .int 0, .ref q3, .int ((-1) : Int32), .int 0, .int 0, .int 0, .int 0, .int 0, .int 0, .int 0, .ref q4, .int 0, .null, .null, .int 0, .null, .null, .null, .null, .int 0, .null, .int 0, .null, .null, .int 0, .int 0, .null, .long 0])), (q1, .inl (c1, 40, .inl (fun _ => 0))), (q2, .inl (c2, 24, .inl (fun _ => 0))), (q3, .inl (c3, 5, .inl (fun _ => 0))), (q4, .inl (c4, 24, .inl (fun _ => 0))), (q5, .inl (c5, 80, .inl (fun _ => 0)))] := hD
  have hK : va_K D vwCl [(c1, .int), (c2, .int), (c3, .int), (c4, .int), (c5, .int)] s := hK
  refine va_putF (D := D) (ci := 10) (v := .ref q5) (ty := .array .int) (C := RX10) (T := TX10) (N := 33) hx hb hts in_wsX100 tyX10 tyX10_ok nmX10 hown hK hP hD hS 0 rfl rfl 17 (by decide) (hts _ (inr5 _ (List.mem_of_getElem? (i := 20) rfl))) (fun _ h9 => h9) rfl hin rfl (by decide +kernel) rfl rfl (Nat.le_of_ble_eq_true rfl) dX10_init_45 (fun H locs hP hD hS => ?_)
  have hP : va_P D vwCl [(h0, .inr (10, [.int 0, .ref q1, .int 0, .int 0, .ref q2, .int 0, .ref q3, .int ((-1) : Int32), .int 0, .int 0, .int 0, .int 0, .int 0, .int 0, .int 0, .ref q4, .int 0, .ref q5, .null, .int 0, .null, .null, .null, .null, .int 0, .null, .int 0, .null, .null, .int 0, .int 0, .null, .long 0])), (q1, .inl (c1, 40, .inl (fun _ => 0))), (q2, .inl (c2, 24, .inl (fun _ => 0))), (q3, .inl (c3, 5, .inl (fun _ => 0))), (q4, .inl (c4, 24, .inl (fun _ => 0))), (q5, .inl (c5, 80, .inl (fun _ => 0)))] H := hP
  have hD : va_D A [(h0, .inr (10, [.int 0, .ref q1, .int 0, .int 0, .ref q2, .int 0, .ref q3, .int ((-1) : Int32), .int 0, .int 0, .int 0, .int 0, .int 0, .int 0, .int 0, .ref q4, .int 0, .ref q5, .null, .int 0, .null, .null, .null, .null, .int 0, .null, .int 0, .null, .null, .int 0, .int 0, .null, .long 0])), (q1, .inl (c1, 40, .inl (fun _ => 0))), (q2, .inl (c2, 24, .inl (fun _ => 0))), (q3, .inl (c3, 5, .inl (fun _ => 0))), (q4, .inl (c4, 24, .inl (fun _ => 0))), (q5, .inl (c5, 80, .inl (fun _ => 0)))] := hD
  refine lv_aload_n hx hb dX10_init_48 rfl (lv_at hl 0 rfl) ?_
  refine lv_bipush (v := (80 : Int32)) hx hb dX10_init_49 (by decide +kernel) ?_
  refine va_newa (atype := .int) (ty := .int) (N' := 80) (a0 := (80, .inl (fun _ => 0))) hx hb (hts _ (inr3 _ (List.mem_of_getElem? (i := 12) rfl))) rfl hK hP hD hS hA (fun _ => rfl) (by decide +kernel) (by decide +kernel) (Nat.le_of_ble_eq_true rfl) (Nat.le_of_ble_eq_true rfl) (Nat.le_of_ble_eq_true rfl) dX10_init_51 (fun q6 c6 H hK hP hD hS => ?_)
  have hP : va_P D vwCl [(h0, .inr (10, [.int 0, .ref q1, .int 0, .int 0, .ref q2, .int 0, .ref q3, .int ((-1) : Int32), .int 0, .int 0, .int 0, .int 0, .int 0, .int 0, .int 0, .ref q4, .int 0, .ref q5, .null, .int 0, .null, .null, .null, .null, .int 0, .null, .int 0, .null, .null, .int 0, .int 0, .null, .long 0])), (q1, .inl (c1, 40, .inl (fun _ => 0))), (q2, .inl (c2, 24, .inl (fun _ => 0))), (q3, .inl (c3, 5, .inl (fun _ => 0))), (q4, .inl (c4, 24, .inl (fun _ => 0))), (q5, .inl (c5, 80, .inl (fun _ => 0))), (q6, .inl (c6, 80, .inl (fun _ => 0)))] H := hP
  have hD : va_D A [(h0, .inr (10, [.int 0, .ref q1, .int 0, .int 0, .ref q2, .int 0, .ref q3, .int ((-1) : Int32), .int 0, .int 0, .int 0, .int 0, .int 0, .int 0, .int 0, .ref q4, .int 0, .ref q5, .null, .int 0, .null, .null, .null, .null, .int 0, .null, .int 0, .null, .null, .int 0, .int 0, .null, .long 0])), (q1, .inl (c1, 40, .inl (fun _ => 0))), (q2, .inl (c2, 24, .inl (fun _ => 0))), (q3, .inl (c3, 5, .inl (fun _ => 0))), (q4, .inl (c4, 24, .inl (fun _ => 0))), (q5, .inl (c5, 80, .inl (fun _ => 0))), (q6, .inl (c6, 80, .inl (fun _ => 0)))] := hD
  have hK : va_K D vwCl [(c1, .int), (c2, .int), (c3, .int), (c4, .int), (c5, .int), (c6, .int)] s := hK
  refine va_putF (D := D) (ci := 10) (v := .ref q6) (ty := .array .int) (C := RX10) (T := TX10) (N := 33) hx hb hts in_wsX100 tyX10 tyX10_ok nmX10 hown hK hP hD hS 0 rfl rfl 18 (by decide) (hts _ (inr5 _ (List.mem_of_getElem? (i := 21) rfl))) (fun _ h9 => h9) rfl hin rfl (by decide +kernel) rfl rfl (Nat.le_of_ble_eq_true rfl) dX10_init_53 (fun H locs hP hD hS => ?_)
  have hP : va_P D vwCl [(h0, .inr (10, [.int 0, .ref q1, .int 0, .int 0, .ref q2, .int 0, .ref q3, .int ((-1) : Int32), .int 0, .int 0, .int 0, .int 0, .int 0, .int 0, .int 0, .ref q4, .int 0, .ref q5, .ref q6, .int 0, .null, .null, .null, .null, .int 0, .null, .int 0, .null, .null, .int 0, .int 0, .null, .long 0])), (q1, .inl (c1, 40, .inl (fun _ => 0))), (q2, .inl (c2, 24, .inl (fun _ => 0))), (q3, .inl (c3, 5, .inl (fun _ => 0))), (q4, .inl (c4, 24, .inl (fun _ => 0))), (q5, .inl (c5, 80, .inl (fun _ => 0))), (q6, .inl (c6, 80, .inl (fun _ => 0)))] H := hP
  have hD : va_D A [(h0, .inr (10, [.int 0, .ref q1, .int 0, .int 0, .ref q2, .int 0, .ref q3, .int ((-1) : Int32), .int 0, .int 0, .int 0, .int 0, .int 0, .int 0, .int 0, .ref q4, .int 0, .ref q5, .ref q6, .int 0, .null, .null, .null, .null, .int 0, .null, .int 0, .null, .null, .int 0, .int 0, .null, .long 0])), (q1, .inl (c1, 40, .inl (fun _ => 0))), (q2, .inl (c2, 24, .inl (fun _ => 0))), (q3, .inl (c3, 5, .inl (fun _ => 0))), (q4, .inl (c4, 24, .inl (fun _ => 0))), (q5, .inl (c5, 80, .inl (fun _ => 0))), (q6, .inl (c6, 80, .inl (fun _ => 0)))] := hD
  refine lv_aload_n hx hb dX10_init_56 rfl (lv_at hl 0 rfl) ?_
  refine lv_iconst (v := ((-1) : Int32)) hx hb dX10_init_57 (by decide) ?_
  refine va_put (D := D) (ci := 10) (v := .int ((-1) : Int32)) (ty := .int) (C := RX10) (T := TX10) (N := 33) hx hb hts in_wsX100 tyX10 tyX10_ok nmX10 hown hK hP hD hS 0 rfl rfl 19 (by decide) (hts _ (inr5 _ (List.mem_of_getElem? (i := 22) rfl))) (fun _ h9 => h9) rfl (by decide +kernel) rfl rfl (Nat.le_of_ble_eq_true rfl) dX10_init_58 (fun H locs hP hD hS => ?_)
  have hP : va_P D vwCl [(h0, .inr (10, [.int 0, .ref q1, .int 0, .int 0, .ref q2, .int 0, .ref q3, .int ((-1) : Int32), .int 0, .int 0, .int 0, .int 0, .int 0, .int 0, .int 0, .ref q4, .int 0, .ref q5, .ref q6, .int ((-1) : Int32), .null, .null, .null, .null, .int 0, .null, .int 0, .null, .null, .int 0, .int 0, .null, .long 0])), (q1, .inl (c1, 40, .inl (fun _ => 0))), (q2, .inl (c2, 24, .inl (fun _ => 0))), (q3, .inl (c3, 5, .inl (fun _ => 0))), (q4, .inl (c4, 24, .inl (fun _ => 0))), (q5, .inl (c5, 80, .inl (fun _ => 0))), (q6, .inl (c6, 80, .inl (fun _ => 0)))] H := hP
  have hD : va_D A [(h0, .inr (10, [.int 0, .ref q1, .int 0, .int 0, .ref q2, .int 0, .ref q3, .int ((-1) : Int32), .int 0, .int 0, .int 0, .int 0, .int 0, .int 0, .int 0, .ref q4, .int 0, .ref q5, .ref q6, .int ((-1) : Int32), .null, .null, .null, .null, .int 0, .null, .int 0, .null, .null, .int 0, .int 0, .null, .long 0])), (q1, .inl (c1, 40, .inl (fun _ => 0))), (q2, .inl (c2, 24, .inl (fun _ => 0))), (q3, .inl (c3, 5, .inl (fun _ => 0))), (q4, .inl (c4, 24, .inl (fun _ => 0))), (q5, .inl (c5, 80, .inl (fun _ => 0))), (q6, .inl (c6, 80, .inl (fun _ => 0)))] := hD
  refine lv_aload_n hx hb dX10_init_61 rfl (lv_at hl 0 rfl) ?_
  refine lv_iconst (v := (5 : Int32)) hx hb dX10_init_62 (by decide) ?_
  refine va_newa (atype := .int) (ty := .int) (N' := 5) (a0 := (5, .inl (fun _ => 0))) hx hb (hts _ (inr3 _ (List.mem_of_getElem? (i := 12) rfl))) rfl hK hP hD hS hA (fun _ => rfl) (by decide +kernel) (by decide +kernel) (Nat.le_of_ble_eq_true rfl) (Nat.le_of_ble_eq_true rfl) (Nat.le_of_ble_eq_true rfl) dX10_init_63 (fun q7 c7 H hK hP hD hS => ?_)
  have hP : va_P D vwCl [(h0, .inr (10, [.int 0, .ref q1, .int 0, .int 0, .ref q2, .int 0, .ref q3, .int ((-1) : Int32), .int 0, .int 0, .int 0, .int 0, .int 0, .int 0, .int 0, .ref q4, .int 0, .ref q5, .ref q6, .int ((-1) : Int32), .null, .null, .null, .null, .int 0, .null, .int 0, .null, .null, .int 0, .int 0, .null, .long 0])), (q1, .inl (c1, 40, .inl (fun _ => 0))), (q2, .inl (c2, 24, .inl (fun _ => 0))), (q3, .inl (c3, 5, .inl (fun _ => 0))), (q4, .inl (c4, 24, .inl (fun _ => 0))), (q5, .inl (c5, 80, .inl (fun _ => 0))), (q6, .inl (c6, 80, .inl (fun _ => 0))), (q7, .inl (c7, 5, .inl (fun _ => 0)))] H := hP
  have hD : va_D A [(h0, .inr (10, [.int 0, .ref q1, .int 0, .int 0, .ref q2, .int 0, .ref q3, .int ((-1) : Int32), .int 0, .int 0, .int 0, .int 0, .int 0, .int 0, .int 0, .ref q4, .int 0, .ref q5, .ref q6, .int ((-1) : Int32), .null, .null, .null, .null, .int 0, .null, .int 0, .null, .null, .int 0, .int 0, .null, .long 0])), (q1, .inl (c1, 40, .inl (fun _ => 0))), (q2, .inl (c2, 24, .inl (fun _ => 0))), (q3, .inl (c3, 5, .inl (fun _ => 0))), (q4, .inl (c4, 24, .inl (fun _ => 0))), (q5, .inl (c5, 80, .inl (fun _ => 0))), (q6, .inl (c6, 80, .inl (fun _ => 0))), (q7, .inl (c7, 5, .inl (fun _ => 0)))] := hD
  have hK : va_K D vwCl [(c1, .int), (c2, .int), (c3, .int), (c4, .int), (c5, .int), (c6, .int), (c7, .int)] s := hK
  refine va_putF (D := D) (ci := 10) (v := .ref q7) (ty := .array .int) (C := RX10) (T := TX10) (N := 33) hx hb hts in_wsX100 tyX10 tyX10_ok nmX10 hown hK hP hD hS 0 rfl rfl 20 (by decide) (hts _ (inr5 _ (List.mem_of_getElem? (i := 23) rfl))) (fun _ h9 => h9) rfl hin rfl (by decide +kernel) rfl rfl (Nat.le_of_ble_eq_true rfl) dX10_init_65 (fun H locs hP hD hS => ?_)
  have hP : va_P D vwCl [(h0, .inr (10, [.int 0, .ref q1, .int 0, .int 0, .ref q2, .int 0, .ref q3, .int ((-1) : Int32), .int 0, .int 0, .int 0, .int 0, .int 0, .int 0, .int 0, .ref q4, .int 0, .ref q5, .ref q6, .int ((-1) : Int32), .ref q7, .null, .null, .null, .int 0, .null, .int 0, .null, .null, .int 0, .int 0, .null, .long 0])), (q1, .inl (c1, 40, .inl (fun _ => 0))), (q2, .inl (c2, 24, .inl (fun _ => 0))), (q3, .inl (c3, 5, .inl (fun _ => 0))), (q4, .inl (c4, 24, .inl (fun _ => 0))), (q5, .inl (c5, 80, .inl (fun _ => 0))), (q6, .inl (c6, 80, .inl (fun _ => 0))), (q7, .inl (c7, 5, .inl (fun _ => 0)))] H := hP
  have hD : va_D A [(h0, .inr (10, [.int 0, .ref q1, .int 0, .int 0, .ref q2, .int 0, .ref q3, .int ((-1) : Int32), .int 0, .int 0, .int 0, .int 0, .int 0, .int 0, .int 0, .ref q4, .int 0, .ref q5, .ref q6, .int ((-1) : Int32), .ref q7, .null, .null, .null, .int 0, .null, .int 0, .null, .null, .int 0, .int 0, .null, .long 0])), (q1, .inl (c1, 40, .inl (fun _ => 0))), (q2, .inl (c2, 24, .inl (fun _ => 0))), (q3, .inl (c3, 5, .inl (fun _ => 0))), (q4, .inl (c4, 24, .inl (fun _ => 0))), (q5, .inl (c5, 80, .inl (fun _ => 0))), (q6, .inl (c6, 80, .inl (fun _ => 0))), (q7, .inl (c7, 5, .inl (fun _ => 0)))] := hD
  refine lv_aload_n hx hb dX10_init_68 rfl (lv_at hl 0 rfl) ?_
  refine lv_iconst (v := (5 : Int32)) hx hb dX10_init_69 (by decide) ?_
  refine va_newa (atype := .int) (ty := .int) (N' := 5) (a0 := (5, .inl (fun _ => 0))) hx hb (hts _ (inr3 _ (List.mem_of_getElem? (i := 12) rfl))) rfl hK hP hD hS hA (fun _ => rfl) (by decide +kernel) (by decide +kernel) (Nat.le_of_ble_eq_true rfl) (Nat.le_of_ble_eq_true rfl) (Nat.le_of_ble_eq_true rfl) dX10_init_70 (fun q8 c8 H hK hP hD hS => ?_)
  have hP : va_P D vwCl [(h0, .inr (10, [.int 0, .ref q1, .int 0, .int 0, .ref q2, .int 0, .ref q3, .int ((-1) : Int32), .int 0, .int 0, .int 0, .int 0, .int 0, .int 0, .int 0, .ref q4, .int 0, .ref q5, .ref q6, .int ((-1) : Int32), .ref q7, .null, .null, .null, .int 0, .null, .int 0, .null, .null, .int 0, .int 0, .null, .long 0])), (q1, .inl (c1, 40, .inl (fun _ => 0))), (q2, .inl (c2, 24, .inl (fun _ => 0))), (q3, .inl (c3, 5, .inl (fun _ => 0))), (q4, .inl (c4, 24, .inl (fun _ => 0))), (q5, .inl (c5, 80, .inl (fun _ => 0))), (q6, .inl (c6, 80, .inl (fun _ => 0))), (q7, .inl (c7, 5, .inl (fun _ => 0))), (q8, .inl (c8, 5, .inl (fun _ => 0)))] H := hP
  have hD : va_D A [(h0, .inr (10, [.int 0, .ref q1, .int 0, .int 0, .ref q2, .int 0, .ref q3, .int ((-1) : Int32), .int 0, .int 0, .int 0, .int 0, .int 0, .int 0, .int 0, .ref q4, .int 0, .ref q5, .ref q6, .int ((-1) : Int32), .ref q7, .null, .null, .null, .int 0, .null, .int 0, .null, .null, .int 0, .int 0, .null, .long 0])), (q1, .inl (c1, 40, .inl (fun _ => 0))), (q2, .inl (c2, 24, .inl (fun _ => 0))), (q3, .inl (c3, 5, .inl (fun _ => 0))), (q4, .inl (c4, 24, .inl (fun _ => 0))), (q5, .inl (c5, 80, .inl (fun _ => 0))), (q6, .inl (c6, 80, .inl (fun _ => 0))), (q7, .inl (c7, 5, .inl (fun _ => 0))), (q8, .inl (c8, 5, .inl (fun _ => 0)))] := hD
  have hK : va_K D vwCl [(c1, .int), (c2, .int), (c3, .int), (c4, .int), (c5, .int), (c6, .int), (c7, .int), (c8, .int)] s := hK
  refine va_putF (D := D) (ci := 10) (v := .ref q8) (ty := .array .int) (C := RX10) (T := TX10) (N := 33) hx hb hts in_wsX100 tyX10 tyX10_ok nmX10 hown hK hP hD hS 0 rfl rfl 21 (by decide) (hts _ (inr6 _ (List.mem_of_getElem? (i := 0) rfl))) (fun _ h9 => h9) rfl hin rfl (by decide +kernel) rfl rfl (Nat.le_of_ble_eq_true rfl) dX10_init_72 (fun H locs hP hD hS => ?_)
  have hP : va_P D vwCl [(h0, .inr (10, [.int 0, .ref q1, .int 0, .int 0, .ref q2, .int 0, .ref q3, .int ((-1) : Int32), .int 0, .int 0, .int 0, .int 0, .int 0, .int 0, .int 0, .ref q4, .int 0, .ref q5, .ref q6, .int ((-1) : Int32), .ref q7, .ref q8, .null, .null, .int 0, .null, .int 0, .null, .null, .int 0, .int 0, .null, .long 0])), (q1, .inl (c1, 40, .inl (fun _ => 0))), (q2, .inl (c2, 24, .inl (fun _ => 0))), (q3, .inl (c3, 5, .inl (fun _ => 0))), (q4, .inl (c4, 24, .inl (fun _ => 0))), (q5, .inl (c5, 80, .inl (fun _ => 0))), (q6, .inl (c6, 80, .inl (fun _ => 0))), (q7, .inl (c7, 5, .inl (fun _ => 0))), (q8, .inl (c8, 5, .inl (fun _ => 0)))] H := hP
  have hD : va_D A [(h0, .inr (10, [.int 0, .ref q1, .int 0, .int 0, .ref q2, .int 0, .ref q3, .int ((-1) : Int32), .int 0, .int 0, .int 0, .int 0, .int 0, .int 0, .int 0, .ref q4, .int 0, .ref q5, .ref q6, .int ((-1) : Int32), .ref q7, .ref q8, .null, .null, .int 0, .null, .int 0, .null, .null, .int 0, .int 0, .null, .long 0])), (q1, .inl (c1, 40, .inl (fun _ => 0))), (q2, .inl (c2, 24, .inl (fun _ => 0))), (q3, .inl (c3, 5, .inl (fun _ => 0))), (q4, .inl (c4, 24, .inl (fun _ => 0))), (q5, .inl (c5, 80, .inl (fun _ => 0))), (q6, .inl (c6, 80, .inl (fun _ => 0))), (q7, .inl (c7, 5, .inl (fun _ => 0))), (q8, .inl (c8, 5, .inl (fun _ => 0)))] := hD
  refine lv_aload_n hx hb dX10_init_75 rfl (lv_at hl 0 rfl) ?_
  refine lv_bipush (v := (64 : Int32)) hx hb dX10_init_76 (by decide +kernel) ?_
  refine va_newa (atype := .long) (ty := .long) (N' := 64) (a0 := (64, .inr (.inl (fun _ => 0)))) hx hb (hts _ (inr4 _ (List.mem_of_getElem? (i := 2) rfl))) rfl hK hP hD hS hA (fun _ => rfl) (by decide +kernel) (by decide +kernel) (Nat.le_of_ble_eq_true rfl) (Nat.le_of_ble_eq_true rfl) (Nat.le_of_ble_eq_true rfl) dX10_init_78 (fun q9 c9 H hK hP hD hS => ?_)
  have hP : va_P D vwCl [(h0, .inr (10, [.int 0, .ref q1, .int 0, .int 0, .ref q2, .int 0, .ref q3, .int ((-1) : Int32), .int 0, .int 0, .int 0, .int 0, .int 0, .int 0, .int 0, .ref q4, .int 0, .ref q5, .ref q6, .int ((-1) : Int32), .ref q7, .ref q8, .null, .null, .int 0, .null, .int 0, .null, .null, .int 0, .int 0, .null, .long 0])), (q1, .inl (c1, 40, .inl (fun _ => 0))), (q2, .inl (c2, 24, .inl (fun _ => 0))), (q3, .inl (c3, 5, .inl (fun _ => 0))), (q4, .inl (c4, 24, .inl (fun _ => 0))), (q5, .inl (c5, 80, .inl (fun _ => 0))), (q6, .inl (c6, 80, .inl (fun _ => 0))), (q7, .inl (c7, 5, .inl (fun _ => 0))), (q8, .inl (c8, 5, .inl (fun _ => 0))), (q9, .inl (c9, 64, .inr (.inl (fun _ => 0))))] H := hP
  have hD : va_D A [(h0, .inr (10, [.int 0, .ref q1, .int 0, .int 0, .ref q2, .int 0, .ref q3, .int ((-1) : Int32), .int 0, .int 0, .int 0, .int 0, .int 0, .int 0, .int 0, .ref q4, .int 0, .ref q5, .ref q6, .int ((-1) : Int32), .ref q7, .ref q8, .null, .null, .int 0, .null, .int 0, .null, .null, .int 0, .int 0, .null, .long 0])), (q1, .inl (c1, 40, .inl (fun _ => 0))), (q2, .inl (c2, 24, .inl (fun _ => 0))), (q3, .inl (c3, 5, .inl (fun _ => 0))), (q4, .inl (c4, 24, .inl (fun _ => 0))), (q5, .inl (c5, 80, .inl (fun _ => 0))), (q6, .inl (c6, 80, .inl (fun _ => 0))), (q7, .inl (c7, 5, .inl (fun _ => 0))), (q8, .inl (c8, 5, .inl (fun _ => 0))), (q9, .inl (c9, 64, .inr (.inl (fun _ => 0))))] := hD
  have hK : va_K D vwCl [(c1, .int), (c2, .int), (c3, .int), (c4, .int), (c5, .int), (c6, .int), (c7, .int), (c8, .int), (c9, .long)] s := hK
  refine va_putF (D := D) (ci := 10) (v := .ref q9) (ty := .array .long) (C := RX10) (T := TX10) (N := 33) hx hb hts in_wsX100 tyX10 tyX10_ok nmX10 hown hK hP hD hS 0 rfl rfl 22 (by decide) (hts _ (inr6 _ (List.mem_of_getElem? (i := 1) rfl))) (fun _ h9 => h9) rfl hin rfl (by decide +kernel) rfl rfl (Nat.le_of_ble_eq_true rfl) dX10_init_80 (fun H locs hP hD hS => ?_)
  have hP : va_P D vwCl [(h0, .inr (10, [.int 0, .ref q1, .int 0, .int 0, .ref q2, .int 0, .ref q3, .int ((-1) : Int32), .int 0, .int 0, .int 0, .int 0, .int 0, .int 0, .int 0, .ref q4, .int 0, .ref q5, .ref q6, .int ((-1) : Int32), .ref q7, .ref q8, .ref q9, .null, .int 0, .null, .int 0, .null, .null, .int 0, .int 0, .null, .long 0])), (q1, .inl (c1, 40, .inl (fun _ => 0))), (q2, .inl (c2, 24, .inl (fun _ => 0))), (q3, .inl (c3, 5, .inl (fun _ => 0))), (q4, .inl (c4, 24, .inl (fun _ => 0))), (q5, .inl (c5, 80, .inl (fun _ => 0))), (q6, .inl (c6, 80, .inl (fun _ => 0))), (q7, .inl (c7, 5, .inl (fun _ => 0))), (q8, .inl (c8, 5, .inl (fun _ => 0))), (q9, .inl (c9, 64, .inr (.inl (fun _ => 0))))] H := hP
  have hD : va_D A [(h0, .inr (10, [.int 0, .ref q1, .int 0, .int 0, .ref q2, .int 0, .ref q3, .int ((-1) : Int32), .int 0, .int 0, .int 0, .int 0, .int 0, .int 0, .int 0, .ref q4, .int 0, .ref q5, .ref q6, .int ((-1) : Int32), .ref q7, .ref q8, .ref q9, .null, .int 0, .null, .int 0, .null, .null, .int 0, .int 0, .null, .long 0])), (q1, .inl (c1, 40, .inl (fun _ => 0))), (q2, .inl (c2, 24, .inl (fun _ => 0))), (q3, .inl (c3, 5, .inl (fun _ => 0))), (q4, .inl (c4, 24, .inl (fun _ => 0))), (q5, .inl (c5, 80, .inl (fun _ => 0))), (q6, .inl (c6, 80, .inl (fun _ => 0))), (q7, .inl (c7, 5, .inl (fun _ => 0))), (q8, .inl (c8, 5, .inl (fun _ => 0))), (q9, .inl (c9, 64, .inr (.inl (fun _ => 0))))] := hD
  refine lv_aload_n hx hb dX10_init_83 rfl (lv_at hl 0 rfl) ?_
  refine lv_bipush (v := (64 : Int32)) hx hb dX10_init_84 (by decide +kernel) ?_
  refine va_newa (atype := .long) (ty := .long) (N' := 64) (a0 := (64, .inr (.inl (fun _ => 0)))) hx hb (hts _ (inr4 _ (List.mem_of_getElem? (i := 2) rfl))) rfl hK hP hD hS hA (fun _ => rfl) (by decide +kernel) (by decide +kernel) (Nat.le_of_ble_eq_true rfl) (Nat.le_of_ble_eq_true rfl) (Nat.le_of_ble_eq_true rfl) dX10_init_86 (fun q10 c10 H hK hP hD hS => ?_)
  have hP : va_P D vwCl [(h0, .inr (10, [.int 0, .ref q1, .int 0, .int 0, .ref q2, .int 0, .ref q3, .int ((-1) : Int32), .int 0, .int 0, .int 0, .int 0, .int 0, .int 0, .int 0, .ref q4, .int 0, .ref q5, .ref q6, .int ((-1) : Int32), .ref q7, .ref q8, .ref q9, .null, .int 0, .null, .int 0, .null, .null, .int 0, .int 0, .null, .long 0])), (q1, .inl (c1, 40, .inl (fun _ => 0))), (q2, .inl (c2, 24, .inl (fun _ => 0))), (q3, .inl (c3, 5, .inl (fun _ => 0))), (q4, .inl (c4, 24, .inl (fun _ => 0))), (q5, .inl (c5, 80, .inl (fun _ => 0))), (q6, .inl (c6, 80, .inl (fun _ => 0))), (q7, .inl (c7, 5, .inl (fun _ => 0))), (q8, .inl (c8, 5, .inl (fun _ => 0))), (q9, .inl (c9, 64, .inr (.inl (fun _ => 0)))), (q10, .inl (c10, 64, .inr (.inl (fun _ => 0))))] H := hP
  have hD : va_D A [(h0, .inr (10, [.int 0, .ref q1, .int 0, .int 0, .ref q2, .int 0, .ref q3, .int ((-1) : Int32), .int 0, .int 0, .int 0, .int 0, .int 0, .int 0, .int 0, .ref q4, .int 0, .ref q5, .ref q6, .int ((-1) : Int32), .ref q7, .ref q8, .ref q9, .null, .int 0, .null, .int 0, .null, .null, .int 0, .int 0, .null, .long 0])), (q1, .inl (c1, 40, .inl (fun _ => 0))), (q2, .inl (c2, 24, .inl (fun _ => 0))), (q3, .inl (c3, 5, .inl (fun _ => 0))), (q4, .inl (c4, 24, .inl (fun _ => 0))), (q5, .inl (c5, 80, .inl (fun _ => 0))), (q6, .inl (c6, 80, .inl (fun _ => 0))), (q7, .inl (c7, 5, .inl (fun _ => 0))), (q8, .inl (c8, 5, .inl (fun _ => 0))), (q9, .inl (c9, 64, .inr (.inl (fun _ => 0)))), (q10, .inl (c10, 64, .inr (.inl (fun _ => 0))))] := hD
  have hK : va_K D vwCl [(c1, .int), (c2, .int), (c3, .int), (c4, .int), (c5, .int), (c6, .int), (c7, .int), (c8, .int), (c9, .long), (c10, .long)] s := hK
  refine va_putF (D := D) (ci := 10) (v := .ref q10) (ty := .array .long) (C := RX10) (T := TX10) (N := 33) hx hb hts in_wsX100 tyX10 tyX10_ok nmX10 hown hK hP hD hS 0 rfl rfl 23 (by decide) (hts _ (inr6 _ (List.mem_of_getElem? (i := 2) rfl))) (fun _ h9 => h9) rfl hin rfl (by decide +kernel) rfl rfl (Nat.le_of_ble_eq_true rfl) dX10_init_88 (fun H locs hP hD hS => ?_)
  have hP : va_P D vwCl [(h0, .inr (10, [.int 0, .ref q1, .int 0, .int 0, .ref q2, .int 0, .ref q3, .int ((-1) : Int32), .int 0, .int 0, .int 0, .int 0, .int 0, .int 0, .int 0, .ref q4, .int 0, .ref q5, .ref q6, .int ((-1) : Int32), .ref q7, .ref q8, .ref q9, .ref q10, .int 0, .null, .int 0, .null, .null, .int 0, .int 0, .null, .long 0])), (q1, .inl (c1, 40, .inl (fun _ => 0))), (q2, .inl (c2, 24, .inl (fun _ => 0))), (q3, .inl (c3, 5, .inl (fun _ => 0))), (q4, .inl (c4, 24, .inl (fun _ => 0))), (q5, .inl (c5, 80, .inl (fun _ => 0))), (q6, .inl (c6, 80, .inl (fun _ => 0))), (q7, .inl (c7, 5, .inl (fun _ => 0))), (q8, .inl (c8, 5, .inl (fun _ => 0))), (q9, .inl (c9, 64, .inr (.inl (fun _ => 0)))), (q10, .inl (c10, 64, .inr (.inl (fun _ => 0))))] H := hP
  have hD : va_D A [(h0, .inr (10, [.int 0, .ref q1, .int 0, .int 0, .ref q2, .int 0, .ref q3, .int ((-1) : Int32), .int 0, .int 0, .int 0, .int 0, .int 0, .int 0, .int 0, .ref q4, .int 0, .ref q5, .ref q6, .int ((-1) : Int32), .ref q7, .ref q8, .ref q9, .ref q10, .int 0, .null, .int 0, .null, .null, .int 0, .int 0, .null, .long 0])), (q1, .inl (c1, 40, .inl (fun _ => 0))), (q2, .inl (c2, 24, .inl (fun _ => 0))), (q3, .inl (c3, 5, .inl (fun _ => 0))), (q4, .inl (c4, 24, .inl (fun _ => 0))), (q5, .inl (c5, 80, .inl (fun _ => 0))), (q6, .inl (c6, 80, .inl (fun _ => 0))), (q7, .inl (c7, 5, .inl (fun _ => 0))), (q8, .inl (c8, 5, .inl (fun _ => 0))), (q9, .inl (c9, 64, .inr (.inl (fun _ => 0)))), (q10, .inl (c10, 64, .inr (.inl (fun _ => 0))))] := hD
  refine lv_aload_n hx hb dX10_init_91 rfl (lv_at hl 0 rfl) ?_
  refine lv_sipush (v := (128 : Int32)) hx hb dX10_init_92 (by decide +kernel) ?_
  refine va_newa (atype := .int) (ty := .int) (N' := 128) (a0 := (128, .inl (fun _ => 0))) hx hb (hts _ (inr3 _ (List.mem_of_getElem? (i := 12) rfl))) rfl hK hP hD hS hA (fun _ => rfl) (by decide +kernel) (by decide +kernel) (Nat.le_of_ble_eq_true rfl) (Nat.le_of_ble_eq_true rfl) (Nat.le_of_ble_eq_true rfl) dX10_init_95 (fun q11 c11 H hK hP hD hS => ?_)
  have hP : va_P D vwCl [(h0, .inr (10, [.int 0, .ref q1, .int 0, .int 0, .ref q2, .int 0, .ref q3, .int ((-1) : Int32), .int 0, .int 0, .int 0, .int 0, .int 0, .int 0, .int 0, .ref q4, .int 0, .ref q5, .ref q6, .int ((-1) : Int32), .ref q7, .ref q8, .ref q9, .ref q10, .int 0, .null, .int 0, .null, .null, .int 0, .int 0, .null, .long 0])), (q1, .inl (c1, 40, .inl (fun _ => 0))), (q2, .inl (c2, 24, .inl (fun _ => 0))), (q3, .inl (c3, 5, .inl (fun _ => 0))), (q4, .inl (c4, 24, .inl (fun _ => 0))), (q5, .inl (c5, 80, .inl (fun _ => 0))), (q6, .inl (c6, 80, .inl (fun _ => 0))), (q7, .inl (c7, 5, .inl (fun _ => 0))), (q8, .inl (c8, 5, .inl (fun _ => 0))), (q9, .inl (c9, 64, .inr (.inl (fun _ => 0)))), (q10, .inl (c10, 64, .inr (.inl (fun _ => 0)))), (q11, .inl (c11, 128, .inl (fun _ => 0)))] H := hP
  have hD : va_D A [(h0, .inr (10, [.int 0, .ref q1, .int 0, .int 0, .ref q2, .int 0, .ref q3, .int ((-1) : Int32), .int 0, .int 0, .int 0, .int 0, .int 0, .int 0, .int 0, .ref q4, .int 0, .ref q5, .ref q6, .int ((-1) : Int32), .ref q7, .ref q8, .ref q9, .ref q10, .int 0, .null, .int 0, .null, .null, .int 0, .int 0, .null, .long 0])), (q1, .inl (c1, 40, .inl (fun _ => 0))), (q2, .inl (c2, 24, .inl (fun _ => 0))), (q3, .inl (c3, 5, .inl (fun _ => 0))), (q4, .inl (c4, 24, .inl (fun _ => 0))), (q5, .inl (c5, 80, .inl (fun _ => 0))), (q6, .inl (c6, 80, .inl (fun _ => 0))), (q7, .inl (c7, 5, .inl (fun _ => 0))), (q8, .inl (c8, 5, .inl (fun _ => 0))), (q9, .inl (c9, 64, .inr (.inl (fun _ => 0)))), (q10, .inl (c10, 64, .inr (.inl (fun _ => 0)))), (q11, .inl (c11, 128, .inl (fun _ => 0)))] := hD
  have hK : va_K D vwCl [(c1, .int), (c2, .int), (c3, .int), (c4, .int), (c5, .int), (c6, .int), (c7, .int), (c8, .int), (c9, .long), (c10, .long), (c11, .int)] s := hK
  refine va_putF (D := D) (ci := 10) (v := .ref q11) (ty := .array .int) (C := RX10) (T := TX10) (N := 33) hx hb hts in_wsX100 tyX10 tyX10_ok nmX10 hown hK hP hD hS 0 rfl rfl 25 (by decide) (hts _ (inr6 _ (List.mem_of_getElem? (i := 3) rfl))) (fun _ h9 => h9) rfl hin rfl (by decide +kernel) rfl rfl (Nat.le_of_ble_eq_true rfl) dX10_init_97 (fun H locs hP hD hS => ?_)
  have hP : va_P D vwCl [(h0, .inr (10, [.int 0, .ref q1, .int 0, .int 0, .ref q2, .int 0, .ref q3, .int ((-1) : Int32), .int 0, .int 0, .int 0, .int 0, .int 0, .int 0, .int 0, .ref q4, .int 0, .ref q5, .ref q6, .int ((-1) : Int32), .ref q7, .ref q8, .ref q9, .ref q10, .int 0, .ref q11, .int 0, .null, .null, .int 0, .int 0, .null, .long 0])), (q1, .inl (c1, 40, .inl (fun _ => 0))), (q2, .inl (c2, 24, .inl (fun _ => 0))), (q3, .inl (c3, 5, .inl (fun _ => 0))), (q4, .inl (c4, 24, .inl (fun _ => 0))), (q5, .inl (c5, 80, .inl (fun _ => 0))), (q6, .inl (c6, 80, .inl (fun _ => 0))), (q7, .inl (c7, 5, .inl (fun _ => 0))), (q8, .inl (c8, 5, .inl (fun _ => 0))), (q9, .inl (c9, 64, .inr (.inl (fun _ => 0)))), (q10, .inl (c10, 64, .inr (.inl (fun _ => 0)))), (q11, .inl (c11, 128, .inl (fun _ => 0)))] H := hP
  have hD : va_D A [(h0, .inr (10, [.int 0, .ref q1, .int 0, .int 0, .ref q2, .int 0, .ref q3, .int ((-1) : Int32), .int 0, .int 0, .int 0, .int 0, .int 0, .int 0, .int 0, .ref q4, .int 0, .ref q5, .ref q6, .int ((-1) : Int32), .ref q7, .ref q8, .ref q9, .ref q10, .int 0, .ref q11, .int 0, .null, .null, .int 0, .int 0, .null, .long 0])), (q1, .inl (c1, 40, .inl (fun _ => 0))), (q2, .inl (c2, 24, .inl (fun _ => 0))), (q3, .inl (c3, 5, .inl (fun _ => 0))), (q4, .inl (c4, 24, .inl (fun _ => 0))), (q5, .inl (c5, 80, .inl (fun _ => 0))), (q6, .inl (c6, 80, .inl (fun _ => 0))), (q7, .inl (c7, 5, .inl (fun _ => 0))), (q8, .inl (c8, 5, .inl (fun _ => 0))), (q9, .inl (c9, 64, .inr (.inl (fun _ => 0)))), (q10, .inl (c10, 64, .inr (.inl (fun _ => 0)))), (q11, .inl (c11, 128, .inl (fun _ => 0)))] := hD
  refine lv_aload_n hx hb dX10_init_100 rfl (lv_at hl 0 rfl) ?_
  refine lv_sipush (v := (2187 : Int32)) hx hb dX10_init_101 (by decide +kernel) ?_
  refine va_newa (atype := .int) (ty := .int) (N' := 2187) (a0 := (2187, .inl (fun _ => 0))) hx hb (hts _ (inr3 _ (List.mem_of_getElem? (i := 12) rfl))) rfl hK hP hD hS hA (fun _ => rfl) (by decide +kernel) (by decide +kernel) (Nat.le_of_ble_eq_true rfl) (Nat.le_of_ble_eq_true rfl) (Nat.le_of_ble_eq_true rfl) dX10_init_104 (fun q12 c12 H hK hP hD hS => ?_)
  have hP : va_P D vwCl [(h0, .inr (10, [.int 0, .ref q1, .int 0, .int 0, .ref q2, .int 0, .ref q3, .int ((-1) : Int32), .int 0, .int 0, .int 0, .int 0, .int 0, .int 0, .int 0, .ref q4, .int 0, .ref q5, .ref q6, .int ((-1) : Int32), .ref q7, .ref q8, .ref q9, .ref q10, .int 0, .ref q11, .int 0, .null, .null, .int 0, .int 0, .null, .long 0])), (q1, .inl (c1, 40, .inl (fun _ => 0))), (q2, .inl (c2, 24, .inl (fun _ => 0))), (q3, .inl (c3, 5, .inl (fun _ => 0))), (q4, .inl (c4, 24, .inl (fun _ => 0))), (q5, .inl (c5, 80, .inl (fun _ => 0))), (q6, .inl (c6, 80, .inl (fun _ => 0))), (q7, .inl (c7, 5, .inl (fun _ => 0))), (q8, .inl (c8, 5, .inl (fun _ => 0))), (q9, .inl (c9, 64, .inr (.inl (fun _ => 0)))), (q10, .inl (c10, 64, .inr (.inl (fun _ => 0)))), (q11, .inl (c11, 128, .inl (fun _ => 0))), (q12, .inl (c12, 2187, .inl (fun _ => 0)))] H := hP
  have hD : va_D A [(h0, .inr (10, [.int 0, .ref q1, .int 0, .int 0, .ref q2, .int 0, .ref q3, .int ((-1) : Int32), .int 0, .int 0, .int 0, .int 0, .int 0, .int 0, .int 0, .ref q4, .int 0, .ref q5, .ref q6, .int ((-1) : Int32), .ref q7, .ref q8, .ref q9, .ref q10, .int 0, .ref q11, .int 0, .null, .null, .int 0, .int 0, .null, .long 0])), (q1, .inl (c1, 40, .inl (fun _ => 0))), (q2, .inl (c2, 24, .inl (fun _ => 0))), (q3, .inl (c3, 5, .inl (fun _ => 0))), (q4, .inl (c4, 24, .inl (fun _ => 0))), (q5, .inl (c5, 80, .inl (fun _ => 0))), (q6, .inl (c6, 80, .inl (fun _ => 0))), (q7, .inl (c7, 5, .inl (fun _ => 0))), (q8, .inl (c8, 5, .inl (fun _ => 0))), (q9, .inl (c9, 64, .inr (.inl (fun _ => 0)))), (q10, .inl (c10, 64, .inr (.inl (fun _ => 0)))), (q11, .inl (c11, 128, .inl (fun _ => 0))), (q12, .inl (c12, 2187, .inl (fun _ => 0)))] := hD
  have hK : va_K D vwCl [(c1, .int), (c2, .int), (c3, .int), (c4, .int), (c5, .int), (c6, .int), (c7, .int), (c8, .int), (c9, .long), (c10, .long), (c11, .int), (c12, .int)] s := hK
  refine va_putF (D := D) (ci := 10) (v := .ref q12) (ty := .array .int) (C := RX10) (T := TX10) (N := 33) hx hb hts in_wsX100 tyX10 tyX10_ok nmX10 hown hK hP hD hS 0 rfl rfl 27 (by decide) (hts _ (inr6 _ (List.mem_of_getElem? (i := 4) rfl))) (fun _ h9 => h9) rfl hin rfl (by decide +kernel) rfl rfl (Nat.le_of_ble_eq_true rfl) dX10_init_106 (fun H locs hP hD hS => ?_)
  have hP : va_P D vwCl [(h0, .inr (10, [.int 0, .ref q1, .int 0, .int 0, .ref q2, .int 0, .ref q3, .int ((-1) : Int32), .int 0, .int 0, .int 0, .int 0, .int 0, .int 0, .int 0, .ref q4, .int 0, .ref q5, .ref q6, .int ((-1) : Int32), .ref q7, .ref q8, .ref q9, .ref q10, .int 0, .ref q11, .int 0, .ref q12, .null, .int 0, .int 0, .null, .long 0])), (q1, .inl (c1, 40, .inl (fun _ => 0))), (q2, .inl (c2, 24, .inl (fun _ => 0))), (q3, .inl (c3, 5, .inl (fun _ => 0))), (q4, .inl (c4, 24, .inl (fun _ => 0))), (q5, .inl (c5, 80, .inl (fun _ => 0))), (q6, .inl (c6, 80, .inl (fun _ => 0))), (q7, .inl (c7, 5, .inl (fun _ => 0))), (q8, .inl (c8, 5, .inl (fun _ => 0))), (q9, .inl (c9, 64, .inr (.inl (fun _ => 0)))), (q10, .inl (c10, 64, .inr (.inl (fun _ => 0)))), (q11, .inl (c11, 128, .inl (fun _ => 0))), (q12, .inl (c12, 2187, .inl (fun _ => 0)))] H := hP
  have hD : va_D A [(h0, .inr (10, [.int 0, .ref q1, .int 0, .int 0, .ref q2, .int 0, .ref q3, .int ((-1) : Int32), .int 0, .int 0, .int 0, .int 0, .int 0, .int 0, .int 0, .ref q4, .int 0, .ref q5, .ref q6, .int ((-1) : Int32), .ref q7, .ref q8, .ref q9, .ref q10, .int 0, .ref q11, .int 0, .ref q12, .null, .int 0, .int 0, .null, .long 0])), (q1, .inl (c1, 40, .inl (fun _ => 0))), (q2, .inl (c2, 24, .inl (fun _ => 0))), (q3, .inl (c3, 5, .inl (fun _ => 0))), (q4, .inl (c4, 24, .inl (fun _ => 0))), (q5, .inl (c5, 80, .inl (fun _ => 0))), (q6, .inl (c6, 80, .inl (fun _ => 0))), (q7, .inl (c7, 5, .inl (fun _ => 0))), (q8, .inl (c8, 5, .inl (fun _ => 0))), (q9, .inl (c9, 64, .inr (.inl (fun _ => 0)))), (q10, .inl (c10, 64, .inr (.inl (fun _ => 0)))), (q11, .inl (c11, 128, .inl (fun _ => 0))), (q12, .inl (c12, 2187, .inl (fun _ => 0)))] := hD
  refine lv_aload_n hx hb dX10_init_109 rfl (lv_at hl 0 rfl) ?_
  refine lv_sipush (v := (2187 : Int32)) hx hb dX10_init_110 (by decide +kernel) ?_
  refine va_newa (atype := .int) (ty := .int) (N' := 2187) (a0 := (2187, .inl (fun _ => 0))) hx hb (hts _ (inr3 _ (List.mem_of_getElem? (i := 12) rfl))) rfl hK hP hD hS hA (fun _ => rfl) (by decide +kernel) (by decide +kernel) (Nat.le_of_ble_eq_true rfl) (Nat.le_of_ble_eq_true rfl) (Nat.le_of_ble_eq_true rfl) dX10_init_113 (fun q13 c13 H hK hP hD hS => ?_)
  have hP : va_P D vwCl [(h0, .inr (10, [.int 0, .ref q1, .int 0, .int 0, .ref q2, .int 0, .ref q3, .int ((-1) : Int32), .int 0, .int 0, .int 0, .int 0, .int 0, .int 0, .int 0, .ref q4, .int 0, .ref q5, .ref q6, .int ((-1) : Int32), .ref q7, .ref q8, .ref q9, .ref q10, .int 0, .ref q11, .int 0, .ref q12, .null, .int 0, .int 0, .null, .long 0])), (q1, .inl (c1, 40, .inl (fun _ => 0))), (q2, .inl (c2, 24, .inl (fun _ => 0))), (q3, .inl (c3, 5, .inl (fun _ => 0))), (q4, .inl (c4, 24, .inl (fun _ => 0))), (q5, .inl (c5, 80, .inl (fun _ => 0))), (q6, .inl (c6, 80, .inl (fun _ => 0))), (q7, .inl (c7, 5, .inl (fun _ => 0))), (q8, .inl (c8, 5, .inl (fun _ => 0))), (q9, .inl (c9, 64, .inr (.inl (fun _ => 0)))), (q10, .inl (c10, 64, .inr (.inl (fun _ => 0)))), (q11, .inl (c11, 128, .inl (fun _ => 0))), (q12, .inl (c12, 2187, .inl (fun _ => 0))), (q13, .inl (c13, 2187, .inl (fun _ => 0)))] H := hP
  have hD : va_D A [(h0, .inr (10, [.int 0, .ref q1, .int 0, .int 0, .ref q2, .int 0, .ref q3, .int ((-1) : Int32), .int 0, .int 0, .int 0, .int 0, .int 0, .int 0, .int 0, .ref q4, .int 0, .ref q5, .ref q6, .int ((-1) : Int32), .ref q7, .ref q8, .ref q9, .ref q10, .int 0, .ref q11, .int 0, .ref q12, .null, .int 0, .int 0, .null, .long 0])), (q1, .inl (c1, 40, .inl (fun _ => 0))), (q2, .inl (c2, 24, .inl (fun _ => 0))), (q3, .inl (c3, 5, .inl (fun _ => 0))), (q4, .inl (c4, 24, .inl (fun _ => 0))), (q5, .inl (c5, 80, .inl (fun _ => 0))), (q6, .inl (c6, 80, .inl (fun _ => 0))), (q7, .inl (c7, 5, .inl (fun _ => 0))), (q8, .inl (c8, 5, .inl (fun _ => 0))), (q9, .inl (c9, 64, .inr (.inl (fun _ => 0)))), (q10, .inl (c10, 64, .inr (.inl (fun _ => 0)))), (q11, .inl (c11, 128, .inl (fun _ => 0))), (q12, .inl (c12, 2187, .inl (fun _ => 0))), (q13, .inl (c13, 2187, .inl (fun _ => 0)))] := hD
  have hK : va_K D vwCl [(c1, .int), (c2, .int), (c3, .int), (c4, .int), (c5, .int), (c6, .int), (c7, .int), (c8, .int), (c9, .long), (c10, .long), (c11, .int), (c12, .int), (c13, .int)] s := hK
  refine va_putF (D := D) (ci := 10) (v := .ref q13) (ty := .array .int) (C := RX10) (T := TX10) (N := 33) hx hb hts in_wsX100 tyX10 tyX10_ok nmX10 hown hK hP hD hS 0 rfl rfl 28 (by decide) (hts _ (inr6 _ (List.mem_of_getElem? (i := 5) rfl))) (fun _ h9 => h9) rfl hin rfl (by decide +kernel) rfl rfl (Nat.le_of_ble_eq_true rfl) dX10_init_115 (fun H locs hP hD hS => ?_)
  have hP : va_P D vwCl [(h0, .inr (10, [.int 0, .ref q1, .int 0, .int 0, .ref q2, .int 0, .ref q3, .int ((-1) : Int32), .int 0, .int 0, .int 0, .int 0, .int 0, .int 0, .int 0, .ref q4, .int 0, .ref q5, .ref q6, .int ((-1) : Int32), .ref q7, .ref q8, .ref q9, .ref q10, .int 0, .ref q11, .int 0, .ref q12, .ref q13, .int 0, .int 0, .null, .long 0])), (q1, .inl (c1, 40, .inl (fun _ => 0))), (q2, .inl (c2, 24, .inl (fun _ => 0))), (q3, .inl (c3, 5, .inl (fun _ => 0))), (q4, .inl (c4, 24, .inl (fun _ => 0))), (q5, .inl (c5, 80, .inl (fun _ => 0))), (q6, .inl (c6, 80, .inl (fun _ => 0))), (q7, .inl (c7, 5, .inl (fun _ => 0))), (q8, .inl (c8, 5, .inl (fun _ => 0))), (q9, .inl (c9, 64, .inr (.inl (fun _ => 0)))), (q10, .inl (c10, 64, .inr (.inl (fun _ => 0)))), (q11, .inl (c11, 128, .inl (fun _ => 0))), (q12, .inl (c12, 2187, .inl (fun _ => 0))), (q13, .inl (c13, 2187, .inl (fun _ => 0)))] H := hP
  have hD : va_D A [(h0, .inr (10, [.int 0, .ref q1, .int 0, .int 0, .ref q2, .int 0, .ref q3, .int ((-1) : Int32), .int 0, .int 0, .int 0, .int 0, .int 0, .int 0, .int 0, .ref q4, .int 0, .ref q5, .ref q6, .int ((-1) : Int32), .ref q7, .ref q8, .ref q9, .ref q10, .int 0, .ref q11, .int 0, .ref q12, .ref q13, .int 0, .int 0, .null, .long 0])), (q1, .inl (c1, 40, .inl (fun _ => 0))), (q2, .inl (c2, 24, .inl (fun _ => 0))), (q3, .inl (c3, 5, .inl (fun _ => 0))), (q4, .inl (c4, 24, .inl (fun _ => 0))), (q5, .inl (c5, 80, .inl (fun _ => 0))), (q6, .inl (c6, 80, .inl (fun _ => 0))), (q7, .inl (c7, 5, .inl (fun _ => 0))), (q8, .inl (c8, 5, .inl (fun _ => 0))), (q9, .inl (c9, 64, .inr (.inl (fun _ => 0)))), (q10, .inl (c10, 64, .inr (.inl (fun _ => 0)))), (q11, .inl (c11, 128, .inl (fun _ => 0))), (q12, .inl (c12, 2187, .inl (fun _ => 0))), (q13, .inl (c13, 2187, .inl (fun _ => 0)))] := hD
  refine lv_aload_n hx hb dX10_init_118 rfl (lv_at hl 0 rfl) ?_
  refine lv_sipush (v := (600 : Int32)) hx hb dX10_init_119 (by decide +kernel) ?_
  refine va_newa (atype := .int) (ty := .int) (N' := 600) (a0 := (600, .inl (fun _ => 0))) hx hb (hts _ (inr3 _ (List.mem_of_getElem? (i := 12) rfl))) rfl hK hP hD hS hA (fun _ => rfl) (by decide +kernel) (by decide +kernel) (Nat.le_of_ble_eq_true rfl) (Nat.le_of_ble_eq_true rfl) (Nat.le_of_ble_eq_true rfl) dX10_init_122 (fun q14 c14 H hK hP hD hS => ?_)
  have hP : va_P D vwCl [(h0, .inr (10, [.int 0, .ref q1, .int 0, .int 0, .ref q2, .int 0, .ref q3, .int ((-1) : Int32), .int 0, .int 0, .int 0, .int 0, .int 0, .int 0, .int 0, .ref q4, .int 0, .ref q5, .ref q6, .int ((-1) : Int32), .ref q7, .ref q8, .ref q9, .ref q10, .int 0, .ref q11, .int 0, .ref q12, .ref q13, .int 0, .int 0, .null, .long 0])), (q1, .inl (c1, 40, .inl (fun _ => 0))), (q2, .inl (c2, 24, .inl (fun _ => 0))), (q3, .inl (c3, 5, .inl (fun _ => 0))), (q4, .inl (c4, 24, .inl (fun _ => 0))), (q5, .inl (c5, 80, .inl (fun _ => 0))), (q6, .inl (c6, 80, .inl (fun _ => 0))), (q7, .inl (c7, 5, .inl (fun _ => 0))), (q8, .inl (c8, 5, .inl (fun _ => 0))), (q9, .inl (c9, 64, .inr (.inl (fun _ => 0)))), (q10, .inl (c10, 64, .inr (.inl (fun _ => 0)))), (q11, .inl (c11, 128, .inl (fun _ => 0))), (q12, .inl (c12, 2187, .inl (fun _ => 0))), (q13, .inl (c13, 2187, .inl (fun _ => 0))), (q14, .inl (c14, 600, .inl (fun _ => 0)))] H := hP
  have hD : va_D A [(h0, .inr (10, [.int 0, .ref q1, .int 0, .int 0, .ref q2, .int 0, .ref q3, .int ((-1) : Int32), .int 0, .int 0, .int 0, .int 0, .int 0, .int 0, .int 0, .ref q4, .int 0, .ref q5, .ref q6, .int ((-1) : Int32), .ref q7, .ref q8, .ref q9, .ref q10, .int 0, .ref q11, .int 0, .ref q12, .ref q13, .int 0, .int 0, .null, .long 0])), (q1, .inl (c1, 40, .inl (fun _ => 0))), (q2, .inl (c2, 24, .inl (fun _ => 0))), (q3, .inl (c3, 5, .inl (fun _ => 0))), (q4, .inl (c4, 24, .inl (fun _ => 0))), (q5, .inl (c5, 80, .inl (fun _ => 0))), (q6, .inl (c6, 80, .inl (fun _ => 0))), (q7, .inl (c7, 5, .inl (fun _ => 0))), (q8, .inl (c8, 5, .inl (fun _ => 0))), (q9, .inl (c9, 64, .inr (.inl (fun _ => 0)))), (q10, .inl (c10, 64, .inr (.inl (fun _ => 0)))), (q11, .inl (c11, 128, .inl (fun _ => 0))), (q12, .inl (c12, 2187, .inl (fun _ => 0))), (q13, .inl (c13, 2187, .inl (fun _ => 0))), (q14, .inl (c14, 600, .inl (fun _ => 0)))] := hD
  have hK : va_K D vwCl [(c1, .int), (c2, .int), (c3, .int), (c4, .int), (c5, .int), (c6, .int), (c7, .int), (c8, .int), (c9, .long), (c10, .long), (c11, .int), (c12, .int), (c13, .int), (c14, .int)] s := hK
  refine va_putF (D := D) (ci := 10) (v := .ref q14) (ty := .array .int) (C := RX10) (T := TX10) (N := 33) hx hb hts in_wsX100 tyX10 tyX10_ok nmX10 hown hK hP hD hS 0 rfl rfl 31 (by decide) (hts _ (inr6 _ (List.mem_of_getElem? (i := 6) rfl))) (fun _ h9 => h9) rfl hin rfl (by decide +kernel) rfl rfl (Nat.le_of_ble_eq_true rfl) dX10_init_124 (fun H locs hP hD hS => ?_)
  have hP : va_P D vwCl [(h0, .inr (10, [.int 0, .ref q1, .int 0, .int 0, .ref q2, .int 0, .ref q3, .int ((-1) : Int32), .int 0, .int 0, .int 0, .int 0, .int 0, .int 0, .int 0, .ref q4, .int 0, .ref q5, .ref q6, .int ((-1) : Int32), .ref q7, .ref q8, .ref q9, .ref q10, .int 0, .ref q11, .int 0, .ref q12, .ref q13, .int 0, .int 0, .ref q14, .long 0])), (q1, .inl (c1, 40, .inl (fun _ => 0))), (q2, .inl (c2, 24, .inl (fun _ => 0))), (q3, .inl (c3, 5, .inl (fun _ => 0))), (q4, .inl (c4, 24, .inl (fun _ => 0))), (q5, .inl (c5, 80, .inl (fun _ => 0))), (q6, .inl (c6, 80, .inl (fun _ => 0))), (q7, .inl (c7, 5, .inl (fun _ => 0))), (q8, .inl (c8, 5, .inl (fun _ => 0))), (q9, .inl (c9, 64, .inr (.inl (fun _ => 0)))), (q10, .inl (c10, 64, .inr (.inl (fun _ => 0)))), (q11, .inl (c11, 128, .inl (fun _ => 0))), (q12, .inl (c12, 2187, .inl (fun _ => 0))), (q13, .inl (c13, 2187, .inl (fun _ => 0))), (q14, .inl (c14, 600, .inl (fun _ => 0)))] H := hP
  have hD : va_D A [(h0, .inr (10, [.int 0, .ref q1, .int 0, .int 0, .ref q2, .int 0, .ref q3, .int ((-1) : Int32), .int 0, .int 0, .int 0, .int 0, .int 0, .int 0, .int 0, .ref q4, .int 0, .ref q5, .ref q6, .int ((-1) : Int32), .ref q7, .ref q8, .ref q9, .ref q10, .int 0, .ref q11, .int 0, .ref q12, .ref q13, .int 0, .int 0, .ref q14, .long 0])), (q1, .inl (c1, 40, .inl (fun _ => 0))), (q2, .inl (c2, 24, .inl (fun _ => 0))), (q3, .inl (c3, 5, .inl (fun _ => 0))), (q4, .inl (c4, 24, .inl (fun _ => 0))), (q5, .inl (c5, 80, .inl (fun _ => 0))), (q6, .inl (c6, 80, .inl (fun _ => 0))), (q7, .inl (c7, 5, .inl (fun _ => 0))), (q8, .inl (c8, 5, .inl (fun _ => 0))), (q9, .inl (c9, 64, .inr (.inl (fun _ => 0)))), (q10, .inl (c10, 64, .inr (.inl (fun _ => 0)))), (q11, .inl (c11, 128, .inl (fun _ => 0))), (q12, .inl (c12, 2187, .inl (fun _ => 0))), (q13, .inl (c13, 2187, .inl (fun _ => 0))), (q14, .inl (c14, 600, .inl (fun _ => 0)))] := hD
  refine W.widen (k := 14) (n := 5493) (Nat.le_of_ble_eq_true rfl) (Nat.le_of_ble_eq_true rfl) ?_
  exact W.vret hx hb hr (fun t ht hW => ⟨⟨(), rfl, trivial, q1, c1, q2, c2, q3, c3, q4, c4, q5, c5, q6, c6, q7, c7, q8, c8, q9, c9, q10, c10, q11, c11, q12, c12, q13, c13, q14, c14, by rw [ht]; exact hP, va_K.moved hW.alike hK, hD⟩, hS.F ht⟩) hS.2.2 dX10_init_127
