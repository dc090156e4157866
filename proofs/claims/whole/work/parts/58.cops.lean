/-! What is done with a fleet: hours, a copy, changing over .. -/
theorem upd_upd {g : Nat → Int32} {k : Nat} {a h : Int32} : upd (upd g k a) k h = upd g k h := by
  funext i
  by_cases c : i = k
  · subst c; rw [upS, upS]
  · rw [upN c, upN c, upN c]
theorem FR.hour {W : Wd} {w : Bool} {σ : Sg} {g : Nat → Int32} {h : Int32} (hW : WO W) (hf : FR W w σ g) : FR W w (uI σ (fi w 2) h) (upd g 43 h) := by
  have w4 := hW.1
  have w9 := hW.2.1
  refine ⟨fun b hb => ?_, fun p hp => ?_, ?_⟩
  · rw [upN (show b ≠ 43 by omega), upN (show 4 + b ≠ 43 by omega), upN (show 8 + b ≠ 43 by omega), upN (show 12 + b ≠ 43 by omega)]
    exact hf.1 b hb
  · rw [upN (show 16 + p ≠ 43 by omega), upN (show 25 + p ≠ 43 by omega), upN (show 34 + p ≠ 43 by omega)]
    exact hf.2.1 p hp
  · rw [I_S, upS]
theorem FR.head {W : Wd} {w : Bool} {σ : Sg} {g : Nat → Int32} {k : Nat} {x : Int32} (hW : WO W) (h : FR W w σ g) (hk : k < 4) : FR W w (uA σ (fa w 1) k x) (upd g (4 + k) x) := by
  have w4 := hW.1
  have w9 := hW.2.1
  refine ⟨fun c hc => ?_, fun p hp => ?_, ?_⟩
  · obtain ⟨h0, h1, h2, h3⟩ := h.1 c hc
    refine ⟨?_, ?_, ?_, ?_⟩
    · rw [rd (i := 1) (j := 0) (by decide), upN (show c ≠ 4 + k by omega)]; exact h0
    · rw [A_at, h1]
      by_cases e : c = k
      · subst e; rw [if_pos rfl, upS]
      · rw [if_neg e, upN (by omega)]
    · rw [rd (i := 1) (j := 2) (by decide), upN (show 8 + c ≠ 4 + k by omega)]; exact h2
    · rw [rd (i := 1) (j := 3) (by decide), upN (show 12 + c ≠ 4 + k by omega)]; exact h3
  · obtain ⟨h0, h1, h2⟩ := h.2.1 p hp
    refine ⟨?_, ?_, ?_⟩
    · rw [rd (i := 1) (j := 9) (by decide), upN (show 16 + p ≠ 4 + k by omega)]; exact h0
    · rw [rd (i := 1) (j := 10) (by decide), upN (show 25 + p ≠ 4 + k by omega)]; exact h1
    · rw [rd (i := 1) (j := 11) (by decide), upN (show 34 + p ≠ 4 + k by omega)]; exact h2
  · rw [upN (show 43 ≠ 4 + k by omega)]; exact h.2.2
theorem FR.carg {W : Wd} {w : Bool} {σ : Sg} {g : Nat → Int32} {k : Nat} {x : Int32} (hW : WO W) (h : FR W w σ g) (hk : k < 4) : FR W w (uA σ (fa w 2) k x) (upd g (8 + k) x) := by
  have w4 := hW.1
  have w9 := hW.2.1
  refine ⟨fun c hc => ?_, fun p hp => ?_, ?_⟩
  · obtain ⟨h0, h1, h2, h3⟩ := h.1 c hc
    refine ⟨?_, ?_, ?_, ?_⟩
    · rw [rd (i := 2) (j := 0) (by decide), upN (show c ≠ 8 + k by omega)]; exact h0
    · rw [rd (i := 2) (j := 1) (by decide), upN (show 4 + c ≠ 8 + k by omega)]; exact h1
    · rw [A_at, h2]
      by_cases e : c = k
      · subst e; rw [if_pos rfl, upS]
      · rw [if_neg e, upN (by omega)]
    · rw [rd (i := 2) (j := 3) (by decide), upN (show 12 + c ≠ 8 + k by omega)]; exact h3
  · obtain ⟨h0, h1, h2⟩ := h.2.1 p hp
    refine ⟨?_, ?_, ?_⟩
    · rw [rd (i := 2) (j := 9) (by decide), upN (show 16 + p ≠ 8 + k by omega)]; exact h0
    · rw [rd (i := 2) (j := 10) (by decide), upN (show 25 + p ≠ 8 + k by omega)]; exact h1
    · rw [rd (i := 2) (j := 11) (by decide), upN (show 34 + p ≠ 8 + k by omega)]; exact h2
  · rw [upN (show 43 ≠ 8 + k by omega)]; exact h.2.2
theorem FR.ther {W : Wd} {w : Bool} {σ : Sg} {g : Nat → Int32} {k : Nat} {x : Int32} (hW : WO W) (h : FR W w σ g) (hk : k < 4) : FR W w (uA σ (fa w 3) k x) (upd g (12 + k) x) := by
  have w4 := hW.1
  have w9 := hW.2.1
  refine ⟨fun c hc => ?_, fun p hp => ?_, ?_⟩
  · obtain ⟨h0, h1, h2, h3⟩ := h.1 c hc
    refine ⟨?_, ?_, ?_, ?_⟩
    · rw [rd (i := 3) (j := 0) (by decide), upN (show c ≠ 12 + k by omega)]; exact h0
    · rw [rd (i := 3) (j := 1) (by decide), upN (show 4 + c ≠ 12 + k by omega)]; exact h1
    · rw [rd (i := 3) (j := 2) (by decide), upN (show 8 + c ≠ 12 + k by omega)]; exact h2
    · rw [A_at, h3]
      by_cases e : c = k
      · subst e; rw [if_pos rfl, upS]
      · rw [if_neg e, upN (by omega)]
  · obtain ⟨h0, h1, h2⟩ := h.2.1 p hp
    refine ⟨?_, ?_, ?_⟩
    · rw [rd (i := 3) (j := 9) (by decide), upN (show 16 + p ≠ 12 + k by omega)]; exact h0
    · rw [rd (i := 3) (j := 10) (by decide), upN (show 25 + p ≠ 12 + k by omega)]; exact h1
    · rw [rd (i := 3) (j := 11) (by decide), upN (show 34 + p ≠ 12 + k by omega)]; exact h2
  · rw [upN (show 43 ≠ 12 + k by omega)]; exact h.2.2
theorem FR.boat {W : Wd} {w : Bool} {σ : Sg} {g : Nat → Int32} {k : Nat} {x : Int32} (hW : WO W) (h : FR W w σ g) (hk : k < 9) : FR W w (uA σ (fa w 9) k x) (upd g (16 + k) x) := by
  have w4 := hW.1
  have w9 := hW.2.1
  refine ⟨fun c hc => ?_, fun p hp => ?_, ?_⟩
  · obtain ⟨h0, h1, h2, h3⟩ := h.1 c hc
    refine ⟨?_, ?_, ?_, ?_⟩
    · rw [rd (i := 9) (j := 0) (by decide), upN (show c ≠ 16 + k by omega)]; exact h0
    · rw [rd (i := 9) (j := 1) (by decide), upN (show 4 + c ≠ 16 + k by omega)]; exact h1
    · rw [rd (i := 9) (j := 2) (by decide), upN (show 8 + c ≠ 16 + k by omega)]; exact h2
    · rw [rd (i := 9) (j := 3) (by decide), upN (show 12 + c ≠ 16 + k by omega)]; exact h3
  · obtain ⟨h0, h1, h2⟩ := h.2.1 p hp
    refine ⟨?_, ?_, ?_⟩
    · rw [A_at, h0]
      by_cases e : p = k
      · subst e; rw [if_pos rfl, upS]
      · rw [if_neg e, upN (by omega)]
    · rw [rd (i := 9) (j := 10) (by decide), upN (show 25 + p ≠ 16 + k by omega)]; exact h1
    · rw [rd (i := 9) (j := 11) (by decide), upN (show 34 + p ≠ 16 + k by omega)]; exact h2
  · rw [upN (show 43 ≠ 16 + k by omega)]; exact h.2.2
theorem FR.awak {W : Wd} {w : Bool} {σ : Sg} {g : Nat → Int32} {k : Nat} {x : Int32} (hW : WO W) (h : FR W w σ g) (hk : k < 9) : FR W w (uA σ (fa w 10) k x) (upd g (25 + k) x) := by
  have w4 := hW.1
  have w9 := hW.2.1
  refine ⟨fun c hc => ?_, fun p hp => ?_, ?_⟩
  · obtain ⟨h0, h1, h2, h3⟩ := h.1 c hc
    refine ⟨?_, ?_, ?_, ?_⟩
    · rw [rd (i := 10) (j := 0) (by decide), upN (show c ≠ 25 + k by omega)]; exact h0
    · rw [rd (i := 10) (j := 1) (by decide), upN (show 4 + c ≠ 25 + k by omega)]; exact h1
    · rw [rd (i := 10) (j := 2) (by decide), upN (show 8 + c ≠ 25 + k by omega)]; exact h2
    · rw [rd (i := 10) (j := 3) (by decide), upN (show 12 + c ≠ 25 + k by omega)]; exact h3
  · obtain ⟨h0, h1, h2⟩ := h.2.1 p hp
    refine ⟨?_, ?_, ?_⟩
    · rw [rd (i := 10) (j := 9) (by decide), upN (show 16 + p ≠ 25 + k by omega)]; exact h0
    · rw [A_at, h1]
      by_cases e : p = k
      · subst e; rw [if_pos rfl, upS]
      · rw [if_neg e, upN (by omega)]
    · rw [rd (i := 10) (j := 11) (by decide), upN (show 34 + p ≠ 25 + k by omega)]; exact h2
  · rw [upN (show 43 ≠ 25 + k by omega)]; exact h.2.2
theorem FR.air {W : Wd} {w : Bool} {σ : Sg} {g : Nat → Int32} {k : Nat} {x : Int32} (hW : WO W) (h : FR W w σ g) (hk : k < 9) : FR W w (uA σ (fa w 11) k x) (upd g (34 + k) x) := by
  have w4 := hW.1
  have w9 := hW.2.1
  refine ⟨fun c hc => ?_, fun p hp => ?_, ?_⟩
  · obtain ⟨h0, h1, h2, h3⟩ := h.1 c hc
    refine ⟨?_, ?_, ?_, ?_⟩
    · rw [rd (i := 11) (j := 0) (by decide), upN (show c ≠ 34 + k by omega)]; exact h0
    · rw [rd (i := 11) (j := 1) (by decide), upN (show 4 + c ≠ 34 + k by omega)]; exact h1
    · rw [rd (i := 11) (j := 2) (by decide), upN (show 8 + c ≠ 34 + k by omega)]; exact h2
    · rw [rd (i := 11) (j := 3) (by decide), upN (show 12 + c ≠ 34 + k by omega)]; exact h3
  · obtain ⟨h0, h1, h2⟩ := h.2.1 p hp
    refine ⟨?_, ?_, ?_⟩
    · rw [rd (i := 11) (j := 9) (by decide), upN (show 16 + p ≠ 34 + k by omega)]; exact h0
    · rw [rd (i := 11) (j := 10) (by decide), upN (show 25 + p ≠ 34 + k by omega)]; exact h1
    · rw [A_at, h2]
      by_cases e : p = k
      · subst e; rw [if_pos rfl, upS]
      · rw [if_neg e, upN (by omega)]
  · rw [upN (show 43 ≠ 34 + k by omega)]; exact h.2.2
theorem OK.head {W : Wd} {g : Nat → Int32} {k : Nat} {x : Int32} (hW : WO W) (h : OK W g) (hk : k < 4) (hx : z1 x) : OK W (upd g (4 + k) x) := by
  have w4 := hW.1
  have w9 := hW.2.1
  refine ⟨fun c hc => ?_, fun p hp => ?_⟩
  · obtain ⟨h0, h1, h2, h3⟩ := h.1 c hc
    refine ⟨?_, ?_, ?_, ?_⟩
    · rw [upN (show c ≠ 4 + k by omega)]; exact h0
    · by_cases e : c = k
      · subst e; rw [upS]; exact hx
      · rw [upN (by omega)]; exact h1
    · rw [upN (show 8 + c ≠ 4 + k by omega)]; exact h2
    · rw [upN (show 12 + c ≠ 4 + k by omega)]; exact h3
  · obtain ⟨h0, h1, h2⟩ := h.2 p hp
    refine ⟨?_, ?_, ?_⟩
    · rw [upN (show 16 + p ≠ 4 + k by omega)]; exact h0
    · rw [upN (show 25 + p ≠ 4 + k by omega)]; exact h1
    · rw [upN (show 34 + p ≠ 4 + k by omega)]; exact h2
theorem OK.carg {W : Wd} {g : Nat → Int32} {k : Nat} {x : Int32} (hW : WO W) (h : OK W g) (hk : k < 4) (hx : n9 x) : OK W (upd g (8 + k) x) := by
  have w4 := hW.1
  have w9 := hW.2.1
  refine ⟨fun c hc => ?_, fun p hp => ?_⟩
  · obtain ⟨h0, h1, h2, h3⟩ := h.1 c hc
    refine ⟨?_, ?_, ?_, ?_⟩
    · rw [upN (show c ≠ 8 + k by omega)]; exact h0
    · rw [upN (show 4 + c ≠ 8 + k by omega)]; exact h1
    · by_cases e : c = k
      · subst e; rw [upS]; exact hx
      · rw [upN (by omega)]; exact h2
    · rw [upN (show 12 + c ≠ 8 + k by omega)]; exact h3
  · obtain ⟨h0, h1, h2⟩ := h.2 p hp
    refine ⟨?_, ?_, ?_⟩
    · rw [upN (show 16 + p ≠ 8 + k by omega)]; exact h0
    · rw [upN (show 25 + p ≠ 8 + k by omega)]; exact h1
    · rw [upN (show 34 + p ≠ 8 + k by omega)]; exact h2
theorem OK.ther {W : Wd} {g : Nat → Int32} {k : Nat} {x : Int32} (hW : WO W) (h : OK W g) (hk : k < 4) (hx : z1 x) : OK W (upd g (12 + k) x) := by
  have w4 := hW.1
  have w9 := hW.2.1
  refine ⟨fun c hc => ?_, fun p hp => ?_⟩
  · obtain ⟨h0, h1, h2, h3⟩ := h.1 c hc
    refine ⟨?_, ?_, ?_, ?_⟩
    · rw [upN (show c ≠ 12 + k by omega)]; exact h0
    · rw [upN (show 4 + c ≠ 12 + k by omega)]; exact h1
    · rw [upN (show 8 + c ≠ 12 + k by omega)]; exact h2
    · by_cases e : c = k
      · subst e; rw [upS]; exact hx
      · rw [upN (by omega)]; exact h3
  · obtain ⟨h0, h1, h2⟩ := h.2 p hp
    refine ⟨?_, ?_, ?_⟩
    · rw [upN (show 16 + p ≠ 12 + k by omega)]; exact h0
    · rw [upN (show 25 + p ≠ 12 + k by omega)]; exact h1
    · rw [upN (show 34 + p ≠ 12 + k by omega)]; exact h2
theorem OK.boat {W : Wd} {g : Nat → Int32} {k : Nat} {x : Int32} (hW : WO W) (h : OK W g) (hk : k < 9) (hx : ax_ix x (wb W) = true) : OK W (upd g (16 + k) x) := by
  have w4 := hW.1
  have w9 := hW.2.1
  refine ⟨fun c hc => ?_, fun p hp => ?_⟩
  · obtain ⟨h0, h1, h2, h3⟩ := h.1 c hc
    refine ⟨?_, ?_, ?_, ?_⟩
    · rw [upN (show c ≠ 16 + k by omega)]; exact h0
    · rw [upN (show 4 + c ≠ 16 + k by omega)]; exact h1
    · rw [upN (show 8 + c ≠ 16 + k by omega)]; exact h2
    · rw [upN (show 12 + c ≠ 16 + k by omega)]; exact h3
  · obtain ⟨h0, h1, h2⟩ := h.2 p hp
    refine ⟨?_, ?_, ?_⟩
    · by_cases e : p = k
      · subst e; rw [upS]; exact hx
      · rw [upN (by omega)]; exact h0
    · rw [upN (show 25 + p ≠ 16 + k by omega)]; exact h1
    · rw [upN (show 34 + p ≠ 16 + k by omega)]; exact h2
theorem OK.awak {W : Wd} {g : Nat → Int32} {k : Nat} {x : Int32} (hW : WO W) (h : OK W g) (hk : k < 9) (hx : z1 x) : OK W (upd g (25 + k) x) := by
  have w4 := hW.1
  have w9 := hW.2.1
  refine ⟨fun c hc => ?_, fun p hp => ?_⟩
  · obtain ⟨h0, h1, h2, h3⟩ := h.1 c hc
    refine ⟨?_, ?_, ?_, ?_⟩
    · rw [upN (show c ≠ 25 + k by omega)]; exact h0
    · rw [upN (show 4 + c ≠ 25 + k by omega)]; exact h1
    · rw [upN (show 8 + c ≠ 25 + k by omega)]; exact h2
    · rw [upN (show 12 + c ≠ 25 + k by omega)]; exact h3
  · obtain ⟨h0, h1, h2⟩ := h.2 p hp
    refine ⟨?_, ?_, ?_⟩
    · rw [upN (show 16 + p ≠ 25 + k by omega)]; exact h0
    · by_cases e : p = k
      · subst e; rw [upS]; exact hx
      · rw [upN (by omega)]; exact h1
    · rw [upN (show 34 + p ≠ 25 + k by omega)]; exact h2
theorem OK.air {W : Wd} {g : Nat → Int32} {k : Nat} {x : Int32} (hW : WO W) (h : OK W g) (hk : k < 9) (hx : n9 x) : OK W (upd g (34 + k) x) := by
  have w4 := hW.1
  have w9 := hW.2.1
  refine ⟨fun c hc => ?_, fun p hp => ?_⟩
  · obtain ⟨h0, h1, h2, h3⟩ := h.1 c hc
    refine ⟨?_, ?_, ?_, ?_⟩
    · rw [upN (show c ≠ 34 + k by omega)]; exact h0
    · rw [upN (show 4 + c ≠ 34 + k by omega)]; exact h1
    · rw [upN (show 8 + c ≠ 34 + k by omega)]; exact h2
    · rw [upN (show 12 + c ≠ 34 + k by omega)]; exact h3
  · obtain ⟨h0, h1, h2⟩ := h.2 p hp
    refine ⟨?_, ?_, ?_⟩
    · rw [upN (show 16 + p ≠ 34 + k by omega)]; exact h0
    · rw [upN (show 25 + p ≠ 34 + k by omega)]; exact h1
    · by_cases e : p = k
      · subst e; rw [upS]; exact hx
      · rw [upN (by omega)]; exact h2
theorem Lv.rf {W : Wd} {g : Nat → Int32} : Lv W g g := ⟨fun _ _ => ⟨rfl, rfl, rfl, rfl⟩, fun _ _ => ⟨rfl, rfl, rfl⟩, rfl⟩
theorem Lv.tr {W : Wd} {g h k : Nat → Int32} (a : Lv W g h) (b : Lv W h k) : Lv W g k := ⟨fun i hi => ⟨(a.1 i hi).1.trans (b.1 i hi).1, (a.1 i hi).2.1.trans (b.1 i hi).2.1, (a.1 i hi).2.2.1.trans (b.1 i hi).2.2.1, (a.1 i hi).2.2.2.trans (b.1 i hi).2.2.2⟩, fun i hi => ⟨(a.2.1 i hi).1.trans (b.2.1 i hi).1, (a.2.1 i hi).2.1.trans (b.2.1 i hi).2.1, (a.2.1 i hi).2.2.trans (b.2.1 i hi).2.2⟩, a.2.2.trans b.2.2⟩
theorem Lv.up {W : Wd} {g h : Nat → Int32} {k : Nat} {x : Int32} (a : Lv W g h) : Lv W (upd g k x) (upd h k x) := by
  have key : ∀ i, g i = h i → upd g k x i = upd h k x i := fun i hi => by
    by_cases e : i = k
    · subst e; rw [upS, upS]
    · rw [upN e, upN e, hi]
  exact ⟨fun i hi => ⟨key _ (a.1 i hi).1, key _ (a.1 i hi).2.1, key _ (a.1 i hi).2.2.1, key _ (a.1 i hi).2.2.2⟩, fun i hi => ⟨key _ (a.2.1 i hi).1, key _ (a.2.1 i hi).2.1, key _ (a.2.1 i hi).2.2⟩, key _ a.2.2⟩
theorem FR.lv {W : Wd} {w : Bool} {σ : Sg} {g h : Nat → Int32} (a : FR W w σ g) (b : Lv W g h) : FR W w σ h := ⟨fun i hi => ⟨(a.1 i hi).1.trans (b.1 i hi).1, (a.1 i hi).2.1.trans (b.1 i hi).2.1, (a.1 i hi).2.2.1.trans (b.1 i hi).2.2.1, (a.1 i hi).2.2.2.trans (b.1 i hi).2.2.2⟩, fun i hi => ⟨(a.2.1 i hi).1.trans (b.2.1 i hi).1, (a.2.1 i hi).2.1.trans (b.2.1 i hi).2.1, (a.2.1 i hi).2.2.trans (b.2.1 i hi).2.2⟩, a.2.2.trans b.2.2⟩
/-! searching -/
theorem fnd_at {P : Nat → Bool} : ∀ (m k i : Nat), i < m → P (k + i) = true → (∀ j, j < i → P (k + j) = false) → fndF P m k = nI (k + i)
  | 0, k, i, h, _, _ => absurd h (Nat.not_lt_zero i)
  | m + 1, k, i, h, h1, h2 => by
    show (bif P k then nI k else fndF P m (k + 1)) = nI (k + i)
    cases i with
    | zero => rw [show P k = true from h1]; rfl
    | succ i =>
      rw [show P k = false from h2 0 (by omega), cond_false, fnd_at m (k + 1) i (by omega) (by rw [show k + 1 + i = k + (i + 1) by omega]; exact h1) (fun j hj => by rw [show k + 1 + j = k + (j + 1) by omega]; exact h2 (j + 1) (by omega)), show k + 1 + i = k + (i + 1) by omega]
theorem fnd_no {P : Nat → Bool} : ∀ (m k : Nat), (∀ j, j < m → P (k + j) = false) → fndF P m k = -1
  | 0, _, _ => rfl
  | m + 1, k, h => by
    show (bif P k then nI k else fndF P m (k + 1)) = -1
    rw [show P k = false from h 0 (by omega), cond_false]
    exact fnd_no m (k + 1) (fun j hj => by rw [show k + 1 + j = k + (j + 1) by omega]; exact h (j + 1) (by omega))
section COPS
variable {d : Nat} {σ : Sg} {w : Bool} {W : Wd} {f g : Nat → Int32}
theorem F_arrF (hW : WO W) (hf : FR W w σ g) (hc : CW W w σ) : ev (d + 2) 151 0 [(0, .ref (fo w))] [] (mkH σ) = rI σ (tmF W g) := by
  rw [F_arrived hc.1 hW.1]
  have e : bitsF (wb W) (fun p => !(sA σ (fa w 3) p == 0)) = thF W g := accF_congr (fun k y hk => by dsimp only [bitF]; rw [(hf.1 k hk).2.2.2])
  rw [e]; rfl
theorem F_awkF (hW : WO W) (hf : FR W w σ g) (hc : CW W w σ) : ev (d + 1) 149 0 [(0, .ref (fo w))] [] (mkH σ) = rI σ (awF W g) := by
  rw [F_awake hc.2.1 hW.2.1]
  have e : bitsF (wp W) (fun p => !(sA σ (fa w 10) p == 0)) = awF W g := accF_congr (fun k y hk => by dsimp only [bitF]; rw [(hf.2.1 k hk).2.1])
  rw [e]
theorem F_abF (hW : WO W) (hf : FR W w σ g) (hc : CW W w σ) {x : Int32} : ev (d + 1) 148 0 [(0, .ref (fo w)), (1, .int x)] [] (mkH σ) = rI σ (abF W g x) := by
  rw [F_aboard hc.2.1 hW.2.1]
  have e : bitsF (wp W) (fun p => sA σ (fa w 9) p == x) = abF W g x := accF_congr (fun k y hk => by dsimp only [bitF]; rw [(hf.2.1 k hk).1])
  rw [e]
theorem F_boF (hW : WO W) (hf : FR W w σ g) (hc : CW W w σ) {x : Int32} : ev (d + 1) 153 0 [(0, .ref (fo w)), (1, .int x)] [] (mkH σ) = rI σ (boF W g x) := by
  rw [F_airOf hc.2.1 hW.2.1]
  have e : sumF (wp W) (fun p => bif hsF x p then sA σ (fa w 11) p else 0) = boF W g x := accF_congr (fun k y hk => by dsimp only; rw [(hf.2.1 k hk).2.2])
  rw [e]
theorem F_brF (hW : WO W) (hf : FR W w σ g) (hc : CW W w σ) : ev (d + 2) 154 0 [(0, .ref (fo w))] [] (mkH σ) = rI σ (brF W g) := by
  rw [F_allAir hc.2.1 hW.2.1]
  have e : sumF (wp W) (fun p => sA σ (fa w 11) p) = brF W g := accF_congr (fun k y hk => by dsimp only; rw [(hf.2.1 k hk).2.2])
  rw [e]
theorem CR.agH {τ : Sg} {E : (Nat → Int32) → Int32} (hr : CR σ (sB σ (fb w)) E) (g : Ag (kH w) σ τ) : CR τ (sB τ (fb w)) E := by
  have e : sB τ (fb w) = sB σ (fb w) := g.2.2.2.1 (fb w) (by cases w <;> rfl)
  rw [e]; exact hr.ag g (by generalize sB σ (fb w) = u; cases w <;> cases u <;> rfl)
theorem F_pass (hW : WO W) (ho : OK W f) (hf : FR W w σ f) (hc : CW W w σ) (hcc : CC W σ) (hr : CR σ (sB σ (fb w)) (wV W)) {n : Nat} {xn : Int32} (hxn : xn = nI n) (hn : n < 2147483648) :
    RnI (ev (d + 6) 158 0 [(0, .ref (fo w)), (1, .int xn)] [] (mkH σ)) (fun τ x => Ag (kH w) σ τ ∧ FR W w τ (itF W f n).1 ∧ sI τ (fi w 3) = sI σ (fi w 3) + (itF W f n).2.1 ∧ sI τ (fi w 4) = sI σ (fi w 4) + (itF W f n).2.2 ∧ x = tmF W (itF W f n).1) := by
  subst hxn
  have fin : ∀ τ {y : Int32}, Ag (kH w) σ τ → FR W w τ (itF W f n).1 → sI τ (fi w 3) = sI σ (fi w 3) + (itF W f n).2.1 → sI τ (fi w 4) = sI σ (fi w 4) + (itF W f n).2.2 → RnI (ev (d + 6) 158 48 [(0, .ref (fo w)), (1, .int (nI n)), (2, .int y)] [.ref (fo w)] (mkH τ)) (fun τ x => Ag (kH w) σ τ ∧ FR W w τ (itF W f n).1 ∧ sI τ (fi w 3) = sI σ (fi w 3) + (itF W f n).2.1 ∧ sI τ (fi w 4) = sI σ (fi w 4) + (itF W f n).2.2 ∧ x = tmF W (itF W f n).1) := by
    intro τ y h1 h2 h3 h4
    rw [c_Fleet_pass_48 (F_arrF hW h2 (hc.ag h1 (by cases w <;> rfl))), g_Fleet_pass_51]
    exact RnI.mk ⟨h1, h2, h3, h4, rfl⟩
  rw [g_Fleet_pass_0]
  refine lpG (α := Sg) (n := n) (P := fun k ρ => Ag (kH w) σ ρ ∧ FR W w ρ (itF W f k).1 ∧ sI ρ (fi w 3) = sI σ (fi w 3) + (itF W f k).2.1 ∧ sI ρ (fi w 4) = sI σ (fi w 4) + (itF W f k).2.2)
    (f := fun k ρ => ev (d + 6) 158 2 [(0, .ref (fo w)), (1, .int (nI n)), (2, .int (nI k))] [] (mkH ρ)) (Q := fun o => RnI o _) ?_ ?_ n 0 σ (by omega) ⟨Ag.rf, hf, (Int32.add_zero _).symm, (Int32.add_zero _).symm⟩
  · rintro k ρ hk ⟨p1, p2, p3, p4⟩ nx
    show RnI (ev (d + 6) 158 2 [(0, .ref (fo w)), (1, .int (nI n)), (2, .int (nI k))] [] (mkH ρ)) _
    have hok := it_ok hW ho k
    have hr' := hr.agH p1
    obtain ⟨τ, x, h1, h2, h3, h4, h5, h6⟩ := F_one (d := d) hW hok p2 (hc.ag p1 (by cases w <;> rfl)) (hcc.ag p1 (by cases w <;> rfl)) hr'
    rw [g_Fleet_pass_2, if_neg (nI_ge hk (by omega)), c_Fleet_pass_8 h1, g_Fleet_pass_11]
    have cont : RnI (ev (d + 6) 158 2 [(0, .ref (fo w)), (1, .int (nI n)), (2, .int (nI (k + 1)))] [] (mkH τ)) (fun τ x => Ag (kH w) σ τ ∧ FR W w τ (itF W f n).1 ∧ sI τ (fi w 3) = sI σ (fi w 3) + (itF W f n).2.1 ∧ sI τ (fi w 4) = sI σ (fi w 4) + (itF W f n).2.2 ∧ x = tmF W (itF W f n).1) := by
      refine nx τ ⟨p1.tr h2, h3, ?_, ?_⟩
      · rw [h4, p3, Int32.add_assoc]; rfl
      · rw [h5, p4, Int32.add_assoc]; rfl
    by_cases c1 : x = 0
    · rw [if_pos c1]
      have hr2 := hr'.agH h2
      obtain ⟨m, m1, m2, m3, m4, m5⟩ := hr2
      have hu : ev (d + 5) 196 0 [(0, .ref (ro (sB τ (fb w))))] [] (mkH τ) = rI τ (sI τ (ri (sB τ (fb w)) 5)) := by
        rw [g_Rule_usesHour_0, if_pos (z1_or m3)]
      rw [c_Fleet_pass_18 hu, g_Fleet_pass_21]
      by_cases c2 : sI τ (ri (sB τ (fb w)) 5) = 0
      · rw [if_pos c2]
        have e1 := h6 c1
        have e2 := it_same hW (m5 c2) ho e1 (n - k)
        rw [show k + (n - k) = n by omega] at e2
        rw [e1] at h3 h4 h5
        have e43 : sI τ (fi w 2) = (itF W f k).1 43 + 1 := by
          have := h3.2.2
          rw [this]; show upd (itF W f k).1 43 ((itF W f k).1 43 + 1) 43 = _; exact upS
        have ehr : sI τ (fi w 2) + (nI n - 1 - nI k) = (itF W f k).1 43 + nI (n - k) := by
          rw [e43, show nI n - 1 = nI (n - 1) from nI_sub (b := 1) (by omega), nI_sub (by omega), Int32.add_assoc, show (1 : Int32) = nI 1 from rfl, nI_add, show 1 + (n - 1 - k) = n - k by omega]
        refine fin _ (Ag.I (p1.tr h2) (by cases w <;> rfl)) ?_ ?_ ?_
        · rw [e2, ehr]
          have := FR.hour (h := (itF W f k).1 43 + nI (n - k)) hW h3
          show FR W w _ (upd (itF W f k).1 43 ((itF W f k).1 43 + nI (n - k)))
          rw [upd_upd] at this
          exact this
        · rw [e2, I_I (fi_ne (by decide)), h4, p3]
          exact Int32.add_zero _
        · rw [e2, I_I (fi_ne (by decide)), h5, p4]
          exact Int32.add_zero _
      · rw [if_neg c2, nI_1]
        exact cont
    · rw [if_neg c1, nI_1]
      exact cont
  · rintro ρ ⟨p1, p2, p3, p4⟩
    show RnI (ev (d + 6) 158 2 [(0, .ref (fo w)), (1, .int (nI n)), (2, .int (nI n))] [] (mkH ρ)) _
    rw [g_Fleet_pass_2, if_pos (nI_le (Nat.le_refl n) (by omega))]
    exact fin ρ p1 p2 p3 p4
/-- is a barge there, k hours on -/
def arP (W : Wd) (f : Nat → Int32) (b : Nat) (k : Nat) : Bool := !((itF W f k).1 (12 + b) == 0)
theorem F_till (hW : WO W) (ho : OK W f) (hf : FR W w σ f) (hc : CW W w σ) (hcc : CC W σ) (hr : CR σ (sB σ (fb w)) (wV W)) {b m : Nat} (hb : b < wb W) {xm : Int32} (hxm : xm = nI m) (hm : m < 2147483648) :
    RnI (ev (d + 7) 163 0 [(0, .ref (fo w)), (1, .int (nI b)), (2, .int xm)] [] (mkH σ)) (fun τ x => Ag (kH w) σ τ ∧ ((∃ k, k ≤ m ∧ arP W f b k = true ∧ (∀ i, i < k → arP W f b i = false) ∧ x = nI k ∧ FR W w τ (itF W f k).1) ∨ ((∀ i, i ≤ m → arP W f b i = false) ∧ x = -1))) := by
  subst hxm
  have w4 := hW.1
  rw [g_Fleet_hoursTillThere_0]
  refine lpG (α := Sg) (n := m) (P := fun k ρ => Ag (kH w) σ ρ ∧ FR W w ρ (itF W f k).1 ∧ (∀ i, i < k → arP W f b i = false) ∧ (0 < k → arP W f b k = false))
    (f := fun k ρ => ev (d + 7) 163 2 [(0, .ref (fo w)), (1, .int (nI b)), (2, .int (nI m)), (3, .int (nI k))] [] (mkH ρ)) (Q := fun o => RnI o _) ?_ ?_ m 0 σ (by omega) ⟨Ag.rf, hf, fun i hi => absurd hi (Nat.not_lt_zero i), fun h => absurd h (Nat.lt_irrefl 0)⟩
  · rintro k ρ hk ⟨p1, p2, p3, p4⟩ nx
    show RnI (ev (d + 7) 163 2 [(0, .ref (fo w)), (1, .int (nI b)), (2, .int (nI m)), (3, .int (nI k))] [] (mkH ρ)) _
    rw [g_Fleet_hoursTillThere_2, if_neg (nI_ge hk (by omega)), ixn (by omega) (by decide), cond_true, cln (by omega), (p2.1 b hb).2.2.2, cond_true]
    by_cases c1 : (itF W f k).1 (12 + b) = 0
    · rw [if_pos c1]
      have hok := it_ok hW ho k
      obtain ⟨τ, x, h1, h2, h3, h4, h5, h6⟩ := F_pass (d := d) (n := 1) hW hok p2 (hc.ag p1 (by cases w <;> rfl)) (hcc.ag p1 (by cases w <;> rfl)) (hr.agH p1) (show (1 : Int32) = nI 1 from rfl) (by decide)
      have h3 : FR W w τ (itF W f (k + 1)).1 := h3
      have ek : arP W f b k = false := by unfold arP; rw [beq_t c1]; rfl
      rw [c_Fleet_hoursTillThere_18 h1, g_Fleet_hoursTillThere_21, ixn (by omega) (by decide), cond_true, cln (by omega), (h3.1 b hb).2.2.2, nI_1]
      have hall : ∀ i, i < k + 1 → arP W f b i = false := fun i hi => by
        by_cases e : i = k
        · rw [e]; exact ek
        · exact p3 i (by omega)
      by_cases c2 : (itF W f (k + 1)).1 (12 + b) = 0
      · rw [if_pos c2]
        exact nx τ ⟨p1.tr h2, h3, hall, fun _ => by unfold arP; rw [beq_t c2]; rfl⟩
      · rw [if_neg c2]
        exact RnI.mk ⟨p1.tr h2, Or.inl ⟨k + 1, by omega, by unfold arP; rw [beq_f c2]; rfl, hall, rfl, h3⟩⟩
    · rw [if_neg c1, if_neg c1]
      have ek : arP W f b k = true := by unfold arP; rw [beq_f c1]; rfl
      have k0 : k = 0 := by
        by_cases e : k = 0
        · exact e
        · have := p4 (by omega); rw [ek] at this; cases this
      subst k0
      exact RnI.mk ⟨p1, Or.inl ⟨0, by omega, ek, p3, rfl, p2⟩⟩
  · rintro ρ ⟨p1, p2, p3, p4⟩
    show RnI (ev (d + 7) 163 2 [(0, .ref (fo w)), (1, .int (nI b)), (2, .int (nI m)), (3, .int (nI m))] [] (mkH ρ)) _
    rw [g_Fleet_hoursTillThere_2, if_pos (nI_le (Nat.le_refl m) (by omega)), ixn (by omega) (by decide), cond_true, cln (by omega), (p2.1 b hb).2.2.2]
    by_cases c1 : (itF W f m).1 (12 + b) = 0
    · rw [if_pos c1]
      have ek : arP W f b m = false := by unfold arP; rw [beq_t c1]; rfl
      exact RnI.mk ⟨p1, Or.inr ⟨fun i hi => by
        by_cases e : i = m
        · rw [e]; exact ek
        · exact p3 i (by omega), m1⟩⟩
    · rw [if_neg c1]
      have ek : arP W f b m = true := by unfold arP; rw [beq_f c1]; rfl
      have k0 : m = 0 := by
        by_cases e : m = 0
        · exact e
        · have := p4 (by omega); rw [ek] at this; cases this
      subst k0
      exact RnI.mk ⟨p1, Or.inl ⟨0, by omega, ek, p3, rfl, p2⟩⟩
/-- why one may not change over; 0 if one may -/
def rcF (W : Wd) (f : Nat → Int32) (x y : Int32) : Int32 := bif ax_ix x (wp W) && ax_ix y (wb W) then (if f (16 + Int32.toNatClampNeg x) = y then -2 else if asF (f (Int32.toNatClampNeg (f (16 + Int32.toNatClampNeg x))) - f (Int32.toNatClampNeg y)) = 1 then 0 else -3) else -1
theorem F_change (hW : WO W) (ho : OK W f) (hf : FR W w σ f) (hc : CW W w σ) {x y : Int32} :
    ev (d + 3) 164 0 [(0, .ref (fo w)), (1, .int x), (2, .int y)] [] (mkH σ) = if rcF W f x y = 0 then rI (uA σ (fa w 9) (Int32.toNatClampNeg x) y) (bcF (abF W (upd f (16 + Int32.toNatClampNeg x) y) y)) else rI σ (rcF W f x y) := by
  have w4 := hW.1
  have w9 := hW.2.1
  rw [g_Fleet_changeOver_0, c_Fleet_changeOver_2 (F_hasP hc.2.1 (by omega)), g_Fleet_changeOver_5]
  unfold rcF
  cases hx : ax_ix x (wp W) with
  | false => rw [cond_false, if_pos rfl, Bool.false_and, cond_false, if_neg (by decide)]; rfl
  | true =>
    rw [cond_true, if_neg (by decide), c_Fleet_changeOver_10 (F_hasB hc.1 (by omega)), g_Fleet_changeOver_13]
    cases hy : ax_ix y (wb W) with
    | false => rw [cond_false, if_pos rfl, Bool.and_false, cond_false, if_neg (by decide)]; rfl
    | true =>
      have hp := ix_lt hx
      have hb := ix_lt hy
      have ex := ix_cl hx
      have ey := ix_cl hy
      rw [cond_true, if_neg (by decide), ix_mono hx w9 (by decide), cond_true, cond_true, Bool.true_and, cond_true, (hf.2.1 _ hp).1]
      by_cases c1 : f (16 + Int32.toNatClampNeg x) = y
      · rw [if_pos c1, if_pos c1, if_neg (by decide)]; rfl
      · rw [if_neg c1, if_neg c1]
        have hz := (ho.2 _ hp).1
        have hzl := ix_lt hz
        have ez := ix_cl hz
        have hap := F_apart (d := d) (σ := σ) (w := w) (a := Int32.toNatClampNeg (f (16 + Int32.toNatClampNeg x))) (b := Int32.toNatClampNeg y) (by omega) (by omega)
        rw [← ez, ← ey] at hap
        rw [c_Fleet_changeOver_39 hap, g_Fleet_changeOver_42, (hf.1 _ hzl).1, (hf.1 _ hb).1]
        by_cases c2 : asF (f (Int32.toNatClampNeg (f (16 + Int32.toNatClampNeg x))) - f (Int32.toNatClampNeg y)) = 1
        · have hf2 := hf.boat (k := Int32.toNatClampNeg x) (x := y) hW (by omega)
          have hc2 : CW W w (uA σ (fa w 9) (Int32.toNatClampNeg x) y) := hc.ag (Ag.A Ag.rf (K := [10000 + fa w 9]) (by cases w <;> rfl)) (by cases w <;> rfl)
          rw [if_pos c2, if_pos c2, if_pos rfl, ix_mono hx w9 (by decide), cond_true, c_Fleet_changeOver_58 (F_abF hW hf2 hc2), c_Fleet_changeOver_61 bc_ev, g_Fleet_changeOver_64]
        · rw [if_neg c2, if_neg c2, if_neg (by decide)]; rfl
theorem F_wake (hW : WO W) (ho : OK W f) (hf : FR W w σ f) (hc : CW W w σ) {x : Int32} :
    ev (d + 2) 165 0 [(0, .ref (fo w)), (1, .int x)] [] (mkH σ) = bif ax_ix x (wp W) then rI (uA σ (fa w 10) (Int32.toNatClampNeg x) (1 - f (25 + Int32.toNatClampNeg x))) (bcF (awF W (upd f (25 + Int32.toNatClampNeg x) (1 - f (25 + Int32.toNatClampNeg x))))) else rI σ (-1) := by
  have w4 := hW.1
  have w9 := hW.2.1
  rw [g_Fleet_wakeOrSleep_0, c_Fleet_wakeOrSleep_2 (F_hasP hc.2.1 (by omega)), g_Fleet_wakeOrSleep_5]
  cases hx : ax_ix x (wp W) with
  | false => rw [cond_false, if_pos rfl]; rfl
  | true =>
    have hp := ix_lt hx
    rw [cond_true, if_neg (by decide), ix_mono hx w9 (by decide), cond_true, cond_true, cond_true, (hf.2.1 _ hp).2.1]
    have key : ∀ v, v = 1 - f (25 + Int32.toNatClampNeg x) → ev (d + 2) 165 31 [(0, .ref (fo w)), (1, .int x)] [.ref (fo w)] (mkH (uA σ (fa w 10) (Int32.toNatClampNeg x) v)) = rI (uA σ (fa w 10) (Int32.toNatClampNeg x) (1 - f (25 + Int32.toNatClampNeg x))) (bcF (awF W (upd f (25 + Int32.toNatClampNeg x) (1 - f (25 + Int32.toNatClampNeg x))))) := by
      rintro v rfl
      have hf2 := hf.awak (k := Int32.toNatClampNeg x) (x := 1 - f (25 + Int32.toNatClampNeg x)) hW (by omega)
      have hc2 : CW W w (uA σ (fa w 10) (Int32.toNatClampNeg x) (1 - f (25 + Int32.toNatClampNeg x))) := hc.ag (Ag.A Ag.rf (K := [10000 + fa w 10]) (by cases w <;> rfl)) (by cases w <;> rfl)
      rw [c_Fleet_wakeOrSleep_31 (F_awkF hW hf2 hc2), c_Fleet_wakeOrSleep_34 bc_ev, g_Fleet_wakeOrSleep_37]
    rcases (ho.2 _ hp).2.1 with e | e
    · rw [if_pos e]
      exact key _ (by rw [e]; decide)
    · rw [if_neg (by rw [e]; decide)]
      exact key _ (by rw [e]; decide)
/-- why one may not load -/
def rlF (W : Wd) (f : Nat → Int32) (x y : Int32) : Int32 := bif ax_ix x (wb W) && ax_ix y 10 then (if f (8 + Int32.toNatClampNeg x) = y then -2 else 0) else -1
theorem F_load (hW : WO W) (hf : FR W w σ f) (hc : CW W w σ) {x y : Int32} :
    ev (d + 2) 166 0 [(0, .ref (fo w)), (1, .int x), (2, .int y)] [] (mkH σ) = bif ax_ix x (wb W) && ax_ix y 10 then rI (uA σ (fa w 2) (Int32.toNatClampNeg x) y) (if f (8 + Int32.toNatClampNeg x) = y then -2 else 10 + f (8 + Int32.toNatClampNeg x)) else rI σ (-1) := by
  have w4 := hW.1
  rw [g_Fleet_load_0, c_Fleet_load_2 (F_hasB hc.1 (by omega)), g_Fleet_load_5]
  cases hx : ax_ix x (wb W) with
  | false => rw [cond_false, if_pos rfl]; rfl
  | true =>
    have hb := ix_lt hx
    rw [cond_true, if_neg (by decide), ix_mono hx w4 (by decide), cond_true, cond_true, Bool.true_and, (hf.1 _ hb).2.2.1]
    by_cases h1 : y < 0
    · rw [if_pos h1, ix_neg h1]; rfl
    · obtain ⟨j, hj, rfl⟩ := nI_of h1
      rw [if_neg h1]
      by_cases h2 : j < 10
      · rw [if_pos (show nI j ≤ (9 : Int32) from nI_le (a := j) (b := 9) (by omega) (by omega)), ixn h2 (by decide), cond_true]
        split <;> rfl
      · rw [if_neg (show ¬ nI j ≤ (9 : Int32) from nI_ge (a := 9) (b := j) (by omega) (by omega)), ix_ge (by omega) (by omega)]; rfl
theorem F_turn (hW : WO W) (hf : FR W w σ f) (hc : CW W w σ) {x : Int32} :
    ev (d + 2) 167 0 [(0, .ref (fo w)), (1, .int x)] [] (mkH σ) = bif ax_ix x (wb W) then rI (uA (uA σ (fa w 1) (Int32.toNatClampNeg x) (1 - f (4 + Int32.toNatClampNeg x))) (fa w 3) (Int32.toNatClampNeg x) 0) (1 - f (4 + Int32.toNatClampNeg x)) else rI σ (-1) := by
  have w4 := hW.1
  rw [g_Fleet_turn_0, c_Fleet_turn_2 (F_hasB hc.1 (by omega)), g_Fleet_turn_5]
  cases hx : ax_ix x (wb W) with
  | false => rw [cond_false, if_pos rfl]; rfl
  | true =>
    have hb := ix_lt hx
    rw [cond_true, if_neg (by decide), ix_mono hx w4 (by decide), cond_true, cond_true, cond_true, cond_true, cond_true, (hf.1 _ hb).2.1, rd (i := 3) (j := 1) (by decide), A_S, upS]
    rfl
end COPS
