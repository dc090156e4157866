/-! the first state, and time -/
theorem INV_mono : ∀ (k : Nat) (σ : Sg), INV k σ → INV (k + 1) σ := fun k σ h => by
  obtain ⟨W, f, h1, h2, h3, h4, h5, h6⟩ := h
  exact ⟨W, f, h1, h2, h3, h4, h5, h6.mono⟩
theorem INV_0 : ∀ (N : Nat) (xs : Nat → Int32), N ≤ 2560 → INV 0 (s0 N xs) := fun N xs _ => by
  have hWO : WO ((0, 0, 4), (fun _ => 0), (fun _ => 0), dflF) := ⟨Nat.zero_le _, Nat.zero_le _, Nat.le_refl _, (by decide : 4 ≤ 30), fun c hc => Or.inl rfl, fun p hp => absurd hp (Nat.not_lt_zero p)⟩
  have hOK : OK ((0, 0, 4), (fun _ => 0), (fun _ => 0), dflF) (fun _ => 0) := ⟨fun b hb => absurd hb (Nat.not_lt_zero b), fun p hp => absurd hp (Nat.not_lt_zero p)⟩
  refine ⟨((0, 0, 4), (fun _ => 0), (fun _ => 0), dflF), fun _ => 0, ⟨⟨hWO, hOK, ⟨rfl, rfl, fun p hp => absurd hp (Nat.not_lt_zero p)⟩, ⟨rfl, fun c hc => ?_⟩, ⟨fun b hb => absurd hb (Nat.not_lt_zero b), fun p hp => absurd hp (Nat.not_lt_zero p), rfl⟩, ?_⟩, ⟨hWO, hOK, ⟨rfl, rfl, rfl, fun c hc => rfl, fun p hp => absurd hp (Nat.not_lt_zero p)⟩, ⟨fun b hb => absurd hb (Nat.not_lt_zero b), fun p hp => absurd hp (Nat.not_lt_zero p), rfl⟩, ⟨0, Nat.zero_le _, rfl, Or.inl ⟨rfl, rfl⟩⟩⟩, rfl, rfl⟩, ⟨0, Nat.zero_le _, rfl, rfl, fun i hi => absurd hi (Nat.not_lt_zero i)⟩, ⟨[], Nat.zero_le _, ⟨rfl, fun i z h => by cases h⟩, ⟨rfl, fun i z h => by cases h⟩⟩, ⟨0, Nat.zero_le _, rfl, rfl, fun i hi => absurd hi (Nat.not_lt_zero i)⟩, ⟨0, 0, by decide, Nat.zero_le _, rfl, rfl, rfl, fun j hj => absurd hj (Nat.not_lt_zero j)⟩, ⟨0, Nat.le_refl _, rfl, fun i hi => ⟨Or.inl rfl, fun z => absurd (show (0 : Int32) = 1 from z) (by decide), Or.inl ⟨rfl, fun z => absurd (show (0 : Int32) = 1 from z.1) (by decide)⟩⟩⟩⟩
  · have hc : c < 4 := hc
    refine Or.inl ⟨?_, rfl⟩
    match c, hc with
    | 0, _ => rfl
    | 1, _ => rfl
    | 2, _ => rfl
    | 3, _ => rfl
    | c + 4, h => exact absurd h (by omega)
  · refine ⟨0, Nat.zero_le _, rfl, Or.inl rfl, Or.inl ⟨rfl, rfl⟩, fun _ => ?_⟩
    exact fun a b c e m h h' => rfl
