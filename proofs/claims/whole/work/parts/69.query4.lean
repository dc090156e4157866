/-! Questions: helps, hastens, rouses -/
theorem m2 : (Int8.ofInt (-2)).toInt32 = -2 := by decide
theorem m3 : (Int8.ofInt (-3)).toInt32 = -3 := by decide
theorem nI_nm2 {n : Nat} (h : n < 2147483648) : ¬ nI n = -2 := fun z => by
  have := congrArg Int32.toInt z
  rw [nI_toInt (by omega), show (-2 : Int32).toInt = -2 from by decide] at this
  omega
theorem fs_some {P : Nat → Bool} : ∀ (m k j : Nat), fsF P m k = some j → P j = true ∧ k ≤ j ∧ j < k + m
  | 0, _, _, h => by cases h
  | m + 1, k, j, h => by
    have h : (bif P k then some k else fsF P m (k + 1)) = some j := h
    cases hp : P k with
    | true => rw [hp] at h; cases h; exact ⟨hp, Nat.le_refl _, by omega⟩
    | false =>
      rw [hp] at h
      obtain ⟨h1, h2, h3⟩ := fs_some m (k + 1) j h
      exact ⟨h1, by omega, by omega⟩
section Q4
variable {d : Nat} {σ : Sg} {W : Wd} {f g : Nat → Int32} {x1 x2 : Int32}
theorem K_try (h : CWo W f σ) {p b : Nat} (hp : p < wp W) (hb : b < wb W) : RnV (ev (d + 2) 247 0 [(0, .ref 0), (1, .int (nI p)), (2, .int (nI b))] [] (mkH σ)) (fun τ => Ag kC σ τ ∧ TR W (upd f (16 + p) (nI b)) τ ∧ CWo W f τ) := by
  have w9 := h.1.2.1
  have w4 := h.1.1
  obtain ⟨τ, k1, k2, k3, k4⟩ := K_copy (d := d) h
  rw [g_Main_tryWith_0, c_Main_tryWith_8 k1, g_Main_tryWith_11, ixn (k := p) (by omega) (by decide), cond_true, cln (n := p) (by omega)]
  have a1 : Ag [10033] τ (uA τ 33 p (nI b)) := Ag.A Ag.rf rfl
  obtain ⟨t1, t2, t3, t4, t5, t6⟩ := k3
  refine RnV.mk ⟨k2.tr (a1.wk rfl), ⟨t1, t2.boat t1 (by omega) (ixn hb (by omega)), t3.boat t1 (by omega), t4.ag a1 rfl, t5.ag a1 rfl, ?_⟩, k4.ag a1 rfl⟩
  have e : sB (uA τ 33 p (nI b)) (fb true) = sB τ (fb true) := rfl
  rw [e]
  exact t6.ag a1 (by generalize sB τ (fb true) = u; cases u <;> rfl)
/-! helps -/
def heG (W : Wd) (f : Nat → Int32) (b p : Nat) (a : Int32 × Int32) : Int32 × Int32 := if f (16 + p) = nI b then a else if wiF W (upd f (16 + p) (nI b)) b ≤ a.2 then a else (nI p, wiF W (upd f (16 + p) (nI b)) b)
def heA (W : Wd) (f : Nat → Int32) (b k : Nat) : Int32 × Int32 := accA (heG W f b) k (-2, -1)
theorem he_c (hW : WO W) {b k : Nat} (hk : k ≤ wp W) : (heA W f b k).1 = -2 ∨ ∃ p, p < wp W ∧ (heA W f b k).1 = nI p := by
  refine accA_inv (P := fun (a : Int32 × Int32) => a.1 = -2 ∨ ∃ p, p < wp W ∧ a.1 = nI p) k (Or.inl rfl) (fun j a hj ha => ?_)
  unfold heG
  split
  · exact ha
  · split
    · exact ha
    · exact Or.inr ⟨j, by omega, rfl⟩
def heS (x1 : Int32) (W : Wd) (f : Nat → Int32) : Int32 × Option (List Int64) := bif ax_ix x1 (wb W) then (if (heA W f (Int32.toNatClampNeg x1) (wp W)).1 = -2 then (-2, none) else ((heA W f (Int32.toNatClampNeg x1) (wp W)).1, some [(heA W f (Int32.toNatClampNeg x1) (wp W)).2.toInt64, (wiF W f (Int32.toNatClampNeg x1)).toInt64])) else (-1, none)
theorem C_helps (hd : 400 ≤ d) (h : CWo W f σ) : RnI (ev d 246 0 [(0, .ref 0), (1, .int x1)] [] (mkH σ)) (fun τ x => Ag kQc σ τ ∧ x = (heS x1 W f).1 ∧ TDx σ τ (heS x1 W f).2) := by
  obtain ⟨d, rfl⟩ : ∃ e, d = e + 10 := ⟨d - 10, by omega⟩
  have w4 := h.1.1
  have w9 := h.1.2.1
  unfold heS
  rw [g_Main_helps_0, c_Main_helps_5 (F_hasB (w := false) h.2.2.1.1 (by omega)), g_Main_helps_8]
  cases hx : ax_ix x1 (wb W) with
  | false => rw [cond_false, if_pos rfl, m1]; exact RnI.mk ⟨Ag.rf, rfl, rfl, rfl⟩
  | true =>
    obtain ⟨b, b1, b2, rfl⟩ := ix_of hx
    rw [cond_true, if_neg (by decide), cond_true, cln (n := b) (by omega), m1, m2]
    refine lpG (α := Sg) (n := wp W) (P := fun k ρ => Ag kQc σ ρ ∧ CWo W f ρ ∧ TDn σ ρ)
      (f := fun k ρ => ev (d + 10) 246 21 [(0, .ref 0), (1, .int (nI b)), (2, .int (heA W f b k).1), (3, .int (heA W f b k).2), (4, .int (nI k))] [] (mkH ρ)) (Q := fun o => RnI o _) ?_ ?_ (wp W) 0 σ (by omega) ⟨Ag.rf, h, rfl, rfl⟩
    · rintro k ρ hk ⟨p1, p2, p3⟩ nx
      show RnI (ev (d + 10) 246 21 [(0, .ref 0), (1, .int (nI b)), (2, .int (heA W f b k).1), (3, .int (heA W f b k).2), (4, .int (nI k))] [] (mkH ρ)) _
      have eh : heA W f b (k + 1) = heG W f b k (heA W f b k) := rfl
      unfold heG at eh
      have nx : ∀ ρ2, Ag kQc σ ρ2 ∧ CWo W f ρ2 ∧ TDn σ ρ2 → RnI (ev (d + 10) 246 21 [(0, .ref 0), (1, .int (nI b)), (2, .int (heA W f b (k + 1)).1), (3, .int (heA W f b (k + 1)).2), (4, .int (nI (k + 1)))] [] (mkH ρ2)) _ := nx
      rw [eh] at nx
      rw [g_Main_helps_21, show sI ρ 334 = nI (wp W) from p2.2.2.1.2.1, if_neg (nI_ge hk (by omega)), ixn (k := k) (by omega) (by decide), cond_true, cln (n := k) (by omega), show sA ρ 19 k = f (16 + k) from (p2.2.2.2.2.1.2.1 k hk).1, nI_1]
      by_cases c : f (16 + k) = nI b
      · rw [if_pos c] at nx ⊢
        exact nx ρ ⟨p1, p2, p3⟩
      · obtain ⟨ρ1, i1, i2, i3, i4⟩ := K_try (d := d + 7) p2 hk b1
        obtain ⟨ρ2, j1, j2, j3, j4⟩ := K_meas (d := d + 6) i3
        rw [if_neg c] at nx ⊢
        rw [c_Main_helps_51 i1, g_Main_helps_54, c_Main_helps_58 j1, g_Main_helps_61, ixn (k := b) (by omega) (by decide), cond_true, cln (n := b) (by omega), show sA ρ2 28 b = _ from (j4.1 b b1).1, cond_true, nI_1]
        have g2 : Ag kQc σ ρ2 ∧ CWo W f ρ2 ∧ TDn σ ρ2 := ⟨(p1.tr (i2.wk rfl)).tr (j2.wk rfl), i4.ag j2 rfl, (p3.tr (tdn i2 rfl)).tr (tdn j2 rfl)⟩
        by_cases c2 : wiF W (upd f (16 + k) (nI b)) b ≤ (heA W f b k).2
        · rw [if_pos c2] at nx ⊢
          exact nx ρ2 g2
        · rw [if_neg c2] at nx ⊢
          exact nx ρ2 g2
    · rintro ρ ⟨p1, p2, p3⟩
      show RnI (ev (d + 10) 246 21 [(0, .ref 0), (1, .int (nI b)), (2, .int (heA W f b (wp W)).1), (3, .int (heA W f b (wp W)).2), (4, .int (nI (wp W)))] [] (mkH ρ)) _
      rw [g_Main_helps_21, show sI ρ 334 = nI (wp W) from p2.2.2.1.2.1, if_pos (nI_le (Nat.le_refl _) (by omega))]
      rcases he_c (f := f) (b := b) h.1 (Nat.le_refl (wp W)) with e | ⟨p, e1, e⟩
      · rw [e, if_pos (by decide), if_pos rfl]
        exact RnI.mk ⟨p1, rfl, p3⟩
      · obtain ⟨ρ2, j1, j2, j3, j4⟩ := K_now (d := d + 6) p2
        obtain ⟨ρ3, t1, t2, t3⟩ := T_two (d := d + 7) (σ := ρ2) (x := (heA W f b (wp W)).2.toInt64) (y := (wiF W f b).toInt64)
        rw [e, if_neg (nI_pos (by omega)), if_neg (nI_nm2 (by omega)), c_Main_helps_101 j1, g_Main_helps_104, ixn (k := b) (by omega) (by decide), cond_true, cln (n := b) (by omega), show sA ρ2 14 b = _ from (j4.1 b b1).1, c_Main_helps_120 t1, g_Main_helps_123]
        exact RnI.mk ⟨(p1.tr (j2.wk rfl)).tr (t2.wk rfl), rfl, t3⟩
theorem Lv.a62 {k : Nat} {x : Int32} (h : Lv W (sA σ 62) g) : Lv W (sA (uA σ 62 k x) 62) (upd g k x) := Lv.at (v := true) h
theorem M_helps (hd : 400 ≤ d) (h : MWo W f σ) : RnI (ev d 85 0 [(0, .ref 50), (1, .int x1)] [] (mkH σ)) (fun τ x => Ag kQm σ τ ∧ x = (heS x1 W f).1 ∧ MDx σ τ (heS x1 W f).2) := by
  obtain ⟨d, rfl⟩ : ∃ e, d = e + 10 := ⟨d - 10, by omega⟩
  have w4 := h.1.1
  have w9 := h.1.2.1
  unfold heS
  have h1 : MWo W f (uI σ 3210 0) := h.nu rfl
  have a0 : Ag kQm σ (uI σ 3210 0) := Ag.I Ag.rf rfl
  rw [g_Model_helps_0, c_Model_helps_7 (N_isB h1.1 h1.2.2.1), g_Model_helps_10]
  cases hx : ax_ix x1 (wb W) with
  | false => rw [cond_false, if_pos rfl, m1]; exact RnI.mk ⟨a0, rfl, rfl, rfl⟩
  | true =>
    obtain ⟨b, b1, b2, rfl⟩ := ix_of hx
    rw [cond_true, if_neg (by decide), cond_true, cln (n := b) (by omega), m1, m2]
    refine lpG (α := Sg) (n := wp W) (P := fun k ρ => Ag kQm σ ρ ∧ MWo W f ρ ∧ MDn σ ρ)
      (f := fun k ρ => ev (d + 10) 85 23 [(0, .ref 50), (1, .int (nI b)), (2, .int (heA W f b k).1), (3, .int (heA W f b k).2), (4, .int (nI k))] [] (mkH ρ)) (Q := fun o => RnI o _) ?_ ?_ (wp W) 0 (uI σ 3210 0) (by omega) ⟨a0, h1, rfl, rfl⟩
    · rintro k ρ hk ⟨p1, p2, p3⟩ nx
      show RnI (ev (d + 10) 85 23 [(0, .ref 50), (1, .int (nI b)), (2, .int (heA W f b k).1), (3, .int (heA W f b k).2), (4, .int (nI k))] [] (mkH ρ)) _
      have eh : heA W f b (k + 1) = heG W f b k (heA W f b k) := rfl
      unfold heG at eh
      have nx : ∀ ρ2, Ag kQm σ ρ2 ∧ MWo W f ρ2 ∧ MDn σ ρ2 → RnI (ev (d + 10) 85 23 [(0, .ref 50), (1, .int (nI b)), (2, .int (heA W f b (k + 1)).1), (3, .int (heA W f b (k + 1)).2), (4, .int (nI (k + 1)))] [] (mkH ρ2)) _ := nx
      rw [eh] at nx
      rw [g_Model_helps_23, p2.2.2.1.2.1, if_neg (nI_ge hk (by omega)), add16, ixn (k := 16 + k) (by omega) (by decide), cond_true, cln (n := 16 + k) (by omega), (p2.2.2.2.1.2.1 k hk).1, nI_1]
      by_cases c : f (16 + k) = nI b
      · rw [if_pos c] at nx ⊢
        exact nx ρ ⟨p1, p2, p3⟩
      · obtain ⟨ρ1, i1, i2, i3, i4⟩ := N_layW (d := d + 8) p2
        have a2 : Ag [10062] ρ1 (uA ρ1 62 (16 + k) (nI b)) := Ag.A Ag.rf rfl
        have m2 := i4.ag a2 rfl
        obtain ⟨ρ2, y, j1, j2, j3⟩ := N_wind (d := d + 7) (v := true) (by omega) m2.1 m2.2.2.1 (m2.2.1.boat m2.1 (by omega) (ixn b1 (by omega))) i3.a62 m2.2.2.2.2 b1
        rw [if_neg c] at nx ⊢
        rw [c_Model_helps_58 i1, g_Model_helps_61, add16, ixn (k := 16 + k) (by omega) (by decide), cond_true, cln (n := 16 + k) (by omega), c_Model_helps_78 j1, g_Model_helps_81, j3, nI_1]
        have g2 : Ag kQm σ ρ2 ∧ MWo W f ρ2 ∧ MDn σ ρ2 := ⟨((p1.tr (i2.wk rfl)).tr (a2.wk rfl)).tr (j2.wk rfl), m2.ag j2 rfl, ((p3.tr (mdn i2 rfl)).tr (mdn a2 rfl)).tr (mdn j2 rfl)⟩
        by_cases c2 : wiF W (upd f (16 + k) (nI b)) b ≤ (heA W f b k).2
        · rw [if_pos c2] at nx
          rw [if_neg (Int32.not_lt.mpr c2)]
          exact nx ρ2 g2
        · rw [if_neg c2] at nx
          rw [if_pos (Int32.not_le.mp c2)]
          exact nx ρ2 g2
    · rintro ρ ⟨p1, p2, p3⟩
      show RnI (ev (d + 10) 85 23 [(0, .ref 50), (1, .int (nI b)), (2, .int (heA W f b (wp W)).1), (3, .int (heA W f b (wp W)).2), (4, .int (nI (wp W)))] [] (mkH ρ)) _
      rw [g_Model_helps_23, p2.2.2.1.2.1, if_pos (nI_le (Nat.le_refl _) (by omega)), m2]
      by_cases e : (heA W f b (wp W)).1 = -2
      · rw [if_pos e, if_pos e]
        exact RnI.mk ⟨p1, rfl, p3⟩
      · obtain ⟨ρ2, t1, t2, t3⟩ := N_tell1 (d := d + 8) (σ := ρ) (x := (heA W f b (wp W)).2.toInt64)
        have m2 := p2.ag t2 rfl
        obtain ⟨ρ3, y, j1, j2, j3⟩ := N_wind (d := d + 7) (v := false) (by omega) m2.1 m2.2.2.1 m2.2.1 m2.2.2.2.1 m2.2.2.2.2 b1
        obtain ⟨ρ4, u1, u2, u3⟩ := N_tell2 (d := d + 8) (y := y.toInt64) (t3.ag j2 rfl)
        rw [if_neg e, if_neg e, c_Model_helps_121 t1, g_Model_helps_124, c_Model_helps_131 j1, g_Model_helps_134, c_Model_helps_135 u1, g_Model_helps_138]
        refine RnI.mk ⟨((p1.tr (t2.wk rfl)).tr (j2.wk rfl)).tr (u2.wk rfl), rfl, ?_⟩
        rw [j3] at u3; exact u3
/-! hastens -/
def haG (W : Wd) (f : Nat → Int32) (b p : Nat) (a : Int32 × Nat) : Int32 × Nat := if f (16 + p) = nI b then a else match fsF (arP W (upd f (16 + p) (nI b)) b) 100 0 with
  | some k => if k < a.2 then (nI p, k) else a
  | none => a
def haA (W : Wd) (f : Nat → Int32) (b k : Nat) : Int32 × Nat := accA (haG W f b) k (-2, 100)
theorem ha_c (hW : WO W) {b k : Nat} (hb : b < wb W) (h0 : f (12 + b) = 0) (hk : k ≤ wp W) : ((haA W f b k).1 = -2 ∧ (haA W f b k).2 = 100) ∨ (∃ p, p < wp W ∧ (haA W f b k).1 = nI p ∧ 1 ≤ (haA W f b k).2 ∧ (haA W f b k).2 ≤ 99) := by
  have w4 := hW.1
  refine accA_inv (P := fun (a : Int32 × Nat) => (a.1 = -2 ∧ a.2 = 100) ∨ (∃ p, p < wp W ∧ a.1 = nI p ∧ 1 ≤ a.2 ∧ a.2 ≤ 99)) k (Or.inl ⟨rfl, rfl⟩) (fun j a hj ha => ?_)
  unfold haG
  split
  · exact ha
  · split
    · rename_i i hi
      obtain ⟨i1, i2, i3⟩ := fs_some _ _ _ hi
      split
      · refine Or.inr ⟨j, by omega, rfl, ?_, by show i ≤ 99; omega⟩
        show 1 ≤ i
        cases i with
        | zero =>
          have : arP W (upd f (16 + j) (nI b)) b 0 = false := by
            unfold arP
            show (!(upd f (16 + j) (nI b) (12 + b) == 0)) = false
            rw [upN (by omega), beq_t h0]; rfl
          rw [this] at i1; cases i1
        | succ i => omega
      · exact ha
    · exact ha
def haS (x1 : Int32) (W : Wd) (f : Nat → Int32) : Int32 × Option (List Int64) := bif ax_ix x1 (wb W) then (if f (12 + Int32.toNatClampNeg x1) = 0 then (if (haA W f (Int32.toNatClampNeg x1) (wp W)).1 = -2 then (-2, none) else ((haA W f (Int32.toNatClampNeg x1) (wp W)).1, some [(nI (haA W f (Int32.toNatClampNeg x1) (wp W)).2).toInt64])) else (-2, none)) else (-1, none)
theorem C_hastens (hd : 400 ≤ d) (h : CWo W f σ) : RnI (ev d 248 0 [(0, .ref 0), (1, .int x1)] [] (mkH σ)) (fun τ x => Ag kQc σ τ ∧ x = (haS x1 W f).1 ∧ TDx σ τ (haS x1 W f).2) := by
  obtain ⟨d, rfl⟩ : ∃ e, d = e + 10 := ⟨d - 10, by omega⟩
  have w4 := h.1.1
  have w9 := h.1.2.1
  unfold haS
  rw [g_Main_hastens_0, c_Main_hastens_5 (F_hasB (w := false) h.2.2.1.1 (by omega)), g_Main_hastens_8]
  cases hx : ax_ix x1 (wb W) with
  | false => rw [cond_false, if_pos rfl, m1]; exact RnI.mk ⟨Ag.rf, rfl, rfl, rfl⟩
  | true =>
    obtain ⟨b, b1, b2, rfl⟩ := ix_of hx
    rw [cond_true, if_neg (by decide), cond_true, ixn (k := b) (by omega) (by decide), cond_true, cln (n := b) (by omega), show sA σ 13 b = f (12 + b) from (h.2.2.2.2.1.1 b b1).2.2.2, m2]
    by_cases h0 : f (12 + b) = 0
    · rw [if_pos h0, if_pos h0]
      refine lpG (α := Sg) (n := wp W) (P := fun k ρ => Ag kQc σ ρ ∧ CWo W f ρ ∧ TDn σ ρ)
        (f := fun k ρ => ev (d + 10) 248 37 [(0, .ref 0), (1, .int (nI b)), (2, .int (haA W f b k).1), (3, .int (nI (haA W f b k).2)), (4, .int (nI k))] [] (mkH ρ)) (Q := fun o => RnI o _) ?_ ?_ (wp W) 0 σ (by omega) ⟨Ag.rf, h, rfl, rfl⟩
      · rintro k ρ hk ⟨p1, p2, p3⟩ nx
        show RnI (ev (d + 10) 248 37 [(0, .ref 0), (1, .int (nI b)), (2, .int (haA W f b k).1), (3, .int (nI (haA W f b k).2)), (4, .int (nI k))] [] (mkH ρ)) _
        have eh : haA W f b (k + 1) = haG W f b k (haA W f b k) := rfl
        unfold haG at eh
        have nx : ∀ ρ2, Ag kQc σ ρ2 ∧ CWo W f ρ2 ∧ TDn σ ρ2 → RnI (ev (d + 10) 248 37 [(0, .ref 0), (1, .int (nI b)), (2, .int (haA W f b (k + 1)).1), (3, .int (nI (haA W f b (k + 1)).2)), (4, .int (nI (k + 1)))] [] (mkH ρ2)) _ := nx
        rw [eh] at nx
        rw [g_Main_hastens_37, show sI ρ 334 = nI (wp W) from p2.2.2.1.2.1, if_neg (nI_ge hk (by omega)), ixn (k := k) (by omega) (by decide), cond_true, cln (n := k) (by omega), show sA ρ 19 k = f (16 + k) from (p2.2.2.2.2.1.2.1 k hk).1, nI_1]
        have hl : 1 ≤ (haA W f b k).2 ∧ (haA W f b k).2 ≤ 100 := by
          rcases ha_c (f := f) h.1 b1 h0 (Nat.le_of_lt hk) with ⟨_, e⟩ | ⟨_, _, _, e1, e2⟩ <;> omega
        by_cases c : f (16 + k) = nI b
        · rw [if_pos c] at nx ⊢
          exact nx ρ ⟨p1, p2, p3⟩
        · obtain ⟨ρ1, i1, i2, i3, i4⟩ := K_try (d := d + 7) p2 hk b1
          obtain ⟨ρ2, y, j1, j2, j3⟩ := K_till (d := d + 2) i3 b1 (m := (haA W f b k).2 - 1) (xm := nI (haA W f b k).2 - 1) (nI_sub (b := 1) (by omega)) (by omega)
          rw [if_neg c] at nx ⊢
          rw [c_Main_hastens_67 i1, g_Main_hastens_70, c_Main_hastens_78 j1, g_Main_hastens_81, nI_1]
          have g2 : Ag kQc σ ρ2 ∧ CWo W f ρ2 ∧ TDn σ ρ2 := ⟨(p1.tr (i2.wk rfl)).tr (j2.wk rfl), i4.ag j2 rfl, (p3.tr (tdn i2 rfl)).tr (tdn j2 rfl)⟩
          rcases j3 with ⟨q, q1, q2, q3, rfl, q5⟩ | ⟨q1, rfl⟩
          · have e : fsF (arP W (upd f (16 + k) (nI b)) b) 100 0 = some q := by
              have := fs_at (P := arP W (upd f (16 + k) (nI b)) b) 100 0 q (by omega) (by rw [Nat.zero_add]; exact q2) (fun j hj => by rw [Nat.zero_add]; exact q3 j hj)
              rwa [Nat.zero_add] at this
            rw [e] at nx
            have nx : ∀ ρ2, Ag kQc σ ρ2 ∧ CWo W f ρ2 ∧ TDn σ ρ2 → RnI (ev (d + 10) 248 37 [(0, .ref 0), (1, .int (nI b)), (2, .int (if q < (haA W f b k).2 then (nI k, q) else haA W f b k).1), (3, .int (nI (if q < (haA W f b k).2 then (nI k, q) else haA W f b k).2)), (4, .int (nI (k + 1)))] [] (mkH ρ2)) _ := nx
            rw [if_pos (by omega)] at nx
            rw [if_neg (nI_pos (by omega))]
            exact nx ρ2 g2
          · rw [if_pos (by decide)]
            cases e : fsF (arP W (upd f (16 + k) (nI b)) b) 100 0 with
            | none => rw [e] at nx; exact nx ρ2 g2
            | some q =>
              obtain ⟨r1, r2, r3⟩ := fs_some _ _ _ e
              rw [e] at nx
              have nx : ∀ ρ2, Ag kQc σ ρ2 ∧ CWo W f ρ2 ∧ TDn σ ρ2 → RnI (ev (d + 10) 248 37 [(0, .ref 0), (1, .int (nI b)), (2, .int (if q < (haA W f b k).2 then (nI k, q) else haA W f b k).1), (3, .int (nI (if q < (haA W f b k).2 then (nI k, q) else haA W f b k).2)), (4, .int (nI (k + 1)))] [] (mkH ρ2)) _ := nx
              have hq : ¬ q < (haA W f b k).2 := fun z => by
                have := q1 q (by omega)
                rw [r1] at this; cases this
              rw [if_neg hq] at nx
              exact nx ρ2 g2
      · rintro ρ ⟨p1, p2, p3⟩
        show RnI (ev (d + 10) 248 37 [(0, .ref 0), (1, .int (nI b)), (2, .int (haA W f b (wp W)).1), (3, .int (nI (haA W f b (wp W)).2)), (4, .int (nI (wp W)))] [] (mkH ρ)) _
        rw [g_Main_hastens_37, show sI ρ 334 = nI (wp W) from p2.2.2.1.2.1, if_pos (nI_le (Nat.le_refl _) (by omega))]
        rcases ha_c (f := f) h.1 b1 h0 (Nat.le_refl (wp W)) with ⟨e, e2⟩ | ⟨p, e1, e, e3, e4⟩
        · rw [e, if_pos (by decide), if_pos rfl]
          exact RnI.mk ⟨p1, rfl, p3⟩
        · obtain ⟨ρ3, t1, t2, t3⟩ := T_one (d := d + 7) (σ := ρ) (x := (nI (haA W f b (wp W)).2).toInt64)
          rw [e, if_neg (nI_pos (by omega)), if_neg (nI_nm2 (by omega)), c_Main_hastens_110 t1, g_Main_hastens_113]
          exact RnI.mk ⟨p1.tr (t2.wk rfl), rfl, t3⟩
    · rw [if_neg h0, if_neg h0]
      exact RnI.mk ⟨Ag.rf, rfl, rfl, rfl⟩
def lmF (n : Nat) : Int32 := if n = 100 then 1000000 else nI n
theorem lm_lt {k n : Nat} (hk : k ≤ 99) (hn : n ≤ 100) : nI k < lmF n ↔ k < n := by
  unfold lmF
  split
  · rename_i e
    refine ⟨fun _ => by omega, fun _ => ?_⟩
    rw [Int32.lt_iff_toInt_lt, nI_toInt (by omega), show (1000000 : Int32).toInt = 1000000 from by decide]
    omega
  · exact nI_ltI (by omega) (by omega)
theorem M_hastens (hd : 400 ≤ d) (h : MWo W f σ) : RnI (ev d 86 0 [(0, .ref 50), (1, .int x1)] [] (mkH σ)) (fun τ x => Ag kQm σ τ ∧ x = (haS x1 W f).1 ∧ MDx σ τ (haS x1 W f).2) := by
  obtain ⟨d, rfl⟩ : ∃ e, d = e + 10 := ⟨d - 10, by omega⟩
  have w4 := h.1.1
  have w9 := h.1.2.1
  unfold haS
  have h1 : MWo W f (uI σ 3210 0) := h.nu rfl
  have a0 : Ag kQm σ (uI σ 3210 0) := Ag.I Ag.rf rfl
  rw [g_Model_hastens_0, c_Model_hastens_7 (N_isB h1.1 h1.2.2.1), g_Model_hastens_10]
  cases hx : ax_ix x1 (wb W) with
  | false => rw [cond_false, if_pos rfl, m1]; exact RnI.mk ⟨a0, rfl, rfl, rfl⟩
  | true =>
    obtain ⟨b, b1, b2, rfl⟩ := ix_of hx
    rw [cond_true, if_neg (by decide), cond_true, cln (n := b) (by omega), m2]
    by_cases h0 : f (12 + b) = 0
    · rw [if_pos h0]
      refine lpG (α := Sg) (n := wp W) (P := fun k ρ => Ag kQm σ ρ ∧ MWo W f ρ ∧ MDn σ ρ)
        (f := fun k ρ => ev (d + 10) 86 25 [(0, .ref 50), (1, .int (nI b)), (2, .int (haA W f b k).1), (3, .int (lmF (haA W f b k).2)), (4, .int (nI k))] [] (mkH ρ)) (Q := fun o => RnI o _) ?_ ?_ (wp W) 0 (uI σ 3210 0) (by omega) ⟨a0, h1, rfl, rfl⟩
      · rintro k ρ hk ⟨p1, p2, p3⟩ nx
        show RnI (ev (d + 10) 86 25 [(0, .ref 50), (1, .int (nI b)), (2, .int (haA W f b k).1), (3, .int (lmF (haA W f b k).2)), (4, .int (nI k))] [] (mkH ρ)) _
        have eh : haA W f b (k + 1) = haG W f b k (haA W f b k) := rfl
        unfold haG at eh
        have nx : ∀ ρ2, Ag kQm σ ρ2 ∧ MWo W f ρ2 ∧ MDn σ ρ2 → RnI (ev (d + 10) 86 25 [(0, .ref 50), (1, .int (nI b)), (2, .int (haA W f b (k + 1)).1), (3, .int (lmF (haA W f b (k + 1)).2)), (4, .int (nI (k + 1)))] [] (mkH ρ2)) _ := nx
        rw [eh] at nx
        have hl : 1 ≤ (haA W f b k).2 ∧ (haA W f b k).2 ≤ 100 := by
          rcases ha_c (f := f) h.1 b1 h0 (Nat.le_of_lt hk) with ⟨_, e⟩ | ⟨_, _, _, e1, e2⟩ <;> omega
        rw [g_Model_hastens_25, p2.2.2.1.2.1, if_neg (nI_ge hk (by omega)), add12, ixn (k := 12 + b) (by omega) (by decide), cond_true, cln (n := 12 + b) (by omega), (p2.2.2.2.1.1 b b1).2.2.2, if_pos h0, add16, ixn (k := 16 + k) (by omega) (by decide), cond_true, cln (n := 16 + k) (by omega), (p2.2.2.2.1.2.1 k hk).1, nI_1]
        by_cases c : f (16 + k) = nI b
        · rw [if_pos c] at nx ⊢
          exact nx ρ ⟨p1, p2, p3⟩
        · obtain ⟨ρ1, i1, i2, i3, i4⟩ := N_layW (d := d + 8) p2
          have a2 : Ag [10062] ρ1 (uA ρ1 62 (16 + k) (nI b)) := Ag.A Ag.rf rfl
          have m2 := i4.ag a2 rfl
          obtain ⟨ρ2, y, j1, j2, j3⟩ := N_arrT (d := d + 4) (by omega) m2.1 m2.2.2.1 (m2.2.1.boat m2.1 (by omega) (ixn b1 (by omega))) i3.a62 m2.2.2.2.2 b1
          rw [if_neg c] at nx ⊢
          rw [c_Model_hastens_72 i1, g_Model_hastens_75, add16, ixn (k := 16 + k) (by omega) (by decide), cond_true, cln (n := 16 + k) (by omega), c_Model_hastens_88 j1, g_Model_hastens_91, nI_1]
          have g2 : Ag kQm σ ρ2 ∧ MWo W f ρ2 ∧ MDn σ ρ2 := ⟨((p1.tr (i2.wk rfl)).tr (a2.wk rfl)).tr (j2.wk rfl), m2.ag j2 rfl, ((p3.tr (mdn i2 rfl)).tr (mdn a2 rfl)).tr (mdn j2 rfl)⟩
          rcases j3 with ⟨q, q1, q2, q3, rfl, q5⟩ | ⟨q1, rfl⟩
          · have e : fsF (arP W (upd f (16 + k) (nI b)) b) 100 0 = some q := by
              have := fs_at (P := arP W (upd f (16 + k) (nI b)) b) 100 0 q (by omega) (by rw [Nat.zero_add]; exact q2) (fun j hj => by rw [Nat.zero_add]; exact q3 j hj)
              rwa [Nat.zero_add] at this
            rw [e] at nx
            have nx : ∀ ρ2, Ag kQm σ ρ2 ∧ MWo W f ρ2 ∧ MDn σ ρ2 → RnI (ev (d + 10) 86 25 [(0, .ref 50), (1, .int (nI b)), (2, .int (if q < (haA W f b k).2 then (nI k, q) else haA W f b k).1), (3, .int (lmF (if q < (haA W f b k).2 then (nI k, q) else haA W f b k).2)), (4, .int (nI (k + 1)))] [] (mkH ρ2)) _ := nx
            rw [if_neg (nI_pos (by omega))]
            by_cases c3 : q < (haA W f b k).2
            · rw [if_pos c3] at nx
              rw [if_pos ((lm_lt (by omega) hl.2).mpr c3)]
              have el : lmF q = nI q := if_neg (by omega)
              have nx : ∀ ρ2, Ag kQm σ ρ2 ∧ MWo W f ρ2 ∧ MDn σ ρ2 → RnI (ev (d + 10) 86 25 [(0, .ref 50), (1, .int (nI b)), (2, .int (nI k)), (3, .int (lmF q)), (4, .int (nI (k + 1)))] [] (mkH ρ2)) _ := nx
              rw [el] at nx
              exact nx ρ2 g2
            · rw [if_neg c3] at nx
              rw [if_neg (fun z => c3 ((lm_lt (by omega) hl.2).mp z))]
              exact nx ρ2 g2
          · have e : fsF (arP W (upd f (16 + k) (nI b)) b) 100 0 = none := fs_no 100 0 (fun j hj => by rw [Nat.zero_add]; exact q1 j (by omega))
            rw [e] at nx
            rw [if_pos (by decide)]
            exact nx ρ2 g2
      · rintro ρ ⟨p1, p2, p3⟩
        show RnI (ev (d + 10) 86 25 [(0, .ref 50), (1, .int (nI b)), (2, .int (haA W f b (wp W)).1), (3, .int (lmF (haA W f b (wp W)).2)), (4, .int (nI (wp W)))] [] (mkH ρ)) _
        rw [g_Model_hastens_25, p2.2.2.1.2.1, if_pos (nI_le (Nat.le_refl _) (by omega)), m2]
        rcases ha_c (f := f) h.1 b1 h0 (Nat.le_refl (wp W)) with ⟨e, e2⟩ | ⟨p, e1, e, e3, e4⟩
        · rw [if_pos e, if_pos e]
          exact RnI.mk ⟨p1, rfl, p3⟩
        · have en : ¬ (haA W f b (wp W)).1 = -2 := by rw [e]; exact nI_nm2 (by omega)
          have el : lmF (haA W f b (wp W)).2 = nI (haA W f b (wp W)).2 := if_neg (by omega)
          obtain ⟨ρ3, t1, t2, t3⟩ := N_tell1 (d := d + 8) (σ := ρ) (x := (nI (haA W f b (wp W)).2).toInt64)
          rw [if_neg en, if_neg en, el, c_Model_hastens_136 t1, g_Model_hastens_139]
          exact RnI.mk ⟨p1.tr (t2.wk rfl), rfl, t3⟩
    · rw [if_neg h0, g_Model_hastens_25, h1.2.2.1.2.1, m2, if_pos rfl]
      by_cases hp : wp W = 0
      · rw [hp, if_pos (by decide)]
        exact RnI.mk ⟨a0, rfl, rfl, rfl⟩
      · rw [if_neg (nI_nle (by omega) (by omega)), add12, ixn (k := 12 + b) (by omega) (by decide), cond_true, cln (n := 12 + b) (by omega), (h1.2.2.2.1.1 b b1).2.2.2, if_neg h0]
        exact RnI.mk ⟨a0, rfl, rfl, rfl⟩
end Q4
theorem op_helps : Op_helps 400 INV := fun d hd k σ a1 _ h => q_op (heS a1) (fun W f hW _ => by
  unfold heS
  cases ax_ix a1 (wb W)
  · exact True.intro
  · rw [cond_true]; split
    · exact True.intro
    · show 2 ≤ 9
      decide) (fun d σ W f hd h => C_helps hd h) (fun d σ W f hd h => M_helps hd h) hd h
theorem op_hastens : Op_hastens 400 INV := fun d hd k σ a1 _ h => q_op (haS a1) (fun W f hW _ => by
  unfold haS
  cases ax_ix a1 (wb W)
  · exact True.intro
  · rw [cond_true]; split
    · split
      · exact True.intro
      · show 1 ≤ 9
        decide
    · exact True.intro) (fun d σ W f hd h => C_hastens hd h) (fun d σ W f hd h => M_hastens hd h) hd h
