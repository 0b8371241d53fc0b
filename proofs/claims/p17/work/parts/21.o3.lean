/-! at the start -/
theorem nrm_0 : ¬ NRM 0 0 (fun _ _ => (0 : Int32)) := fun q => absurd q.1 (by omega)
theorem cK_0 : cK 0 0 (fun _ _ => (0 : Int32)) 0 (fun _ => 0) 0 0 0 (-1) 0 (fun _ => 0) (fun _ => 0) 0 (fun _ => 0) 0 (fun _ => 0) (fun _ => 0) 0 (fun _ => 0) 0 := ⟨⟨rfl, rfl, rfl, fun q => absurd q nrm_0, fun _ => rfl⟩, ⟨by rw [PN_f nrm_0]; rfl, fun p hp => by rw [PN_f nrm_0] at hp; exact absurd hp (by omega)⟩, ⟨lsK_f nrm_0, by rw [LG_f nrm_0]; rfl⟩, ⟨⟨by omega, fun _ => rfl, fun i hi => absurd hi (by omega)⟩, rfl, fun s _ => rfl⟩, by unfold LOS; rw [PN_f nrm_0]; rfl, ⟨⟨0, by omega, rfl⟩, fun q => absurd q.1 nrm_0⟩⟩
theorem rK_0 : rK 0 0 (fun _ _ => (0 : Int32)) 0 (fun _ => 0) 0 (fun _ => 0) (fun _ => 0) (-1) (fun _ => 0) 0 (fun _ => 0) := ⟨⟨by rw [PN_f nrm_0]; rfl, fun p hp => by rw [PN_f nrm_0] at hp; exact absurd hp (by omega)⟩, ⟨lsK_f nrm_0, by rw [LG_f nrm_0]; rfl⟩, ⟨by omega, fun _ => rfl, fun i hi => absurd hi (by omega)⟩, rfl⟩
theorem lmI_M {g : Nat} (h : g ≤ 5) : lmM (lmI g) := by
  unfold lmI
  split
  · exact Or.inl rfl
  · exact Or.inr ⟨g, h, rfl⟩
theorem okE.tabM {st co : Nat} {en : Nat → Int32} {E : Nat → Nat → Int32} (h : okE st co E) (he : eqE st co en E) : tabM st co en := h.tab he
