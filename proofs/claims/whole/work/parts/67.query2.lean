/-! Questions: breath, arrives, meets, tires, near -/
def fsF (P : Nat → Bool) : Nat → Nat → Option Nat
  | 0, _ => none
  | m + 1, k => bif P k then some k else fsF P m (k + 1)
theorem fs_at {P : Nat → Bool} : ∀ (m k i : Nat), i < m → P (k + i) = true → (∀ j, j < i → P (k + j) = false) → fsF P m k = some (k + i)
  | 0, k, i, h, _, _ => absurd h (Nat.not_lt_zero i)
  | m + 1, k, i, h, h1, h2 => by
    show (bif P k then some k else fsF P m (k + 1)) = some (k + i)
    cases i with
    | zero => rw [show P k = true from h1]; rfl
    | succ i =>
      rw [show P k = false from h2 0 (by omega), cond_false, fs_at m (k + 1) i (by omega) (by rw [show k + 1 + i = k + (i + 1) by omega]; exact h1) (fun j hj => by rw [show k + 1 + j = k + (j + 1) by omega]; exact h2 (j + 1) (by omega)), show k + 1 + i = k + (i + 1) by omega]
theorem fs_no {P : Nat → Bool} : ∀ (m k : Nat), (∀ j, j < m → P (k + j) = false) → fsF P m k = none
  | 0, _, _ => rfl
  | m + 1, k, h => by
    show (bif P k then some k else fsF P m (k + 1)) = none
    rw [show P k = false from h 0 (by omega), cond_false]
    exact fs_no m (k + 1) (fun j hj => by rw [show k + 1 + j = k + (j + 1) by omega]; exact h (j + 1) (by omega))
theorem fs_1 {P : Nat → Bool} {m k : Nat} (hk : k < m) : fsF P (m - k) k = bif P k then some k else fsF P (m - (k + 1)) (k + 1) := by
  rw [show m - k = (m - (k + 1)) + 1 by omega]; rfl
section Q2
variable {d : Nat} {σ : Sg} {W : Wd} {f g : Nat → Int32} {x1 x2 : Int32}
theorem N_hourW (hd : 300 ≤ d) (h : MWo W f σ) (hg : OK W g) (hl : Lv W (sA σ 62) g) : RnV (ev (d + 4) 59 0 [(0, .ref 50), (1, .ref 62)] [] (mkH σ)) (fun τ => Ag (kHm true) σ τ ∧ Lv W (sA τ 62) (hrF W g).1 ∧ MWo W f τ) :=
  (N_hour (v := true) hd h.1 h.2.2.1 hg hl h.2.2.2.2).im (fun τ ⟨k1, k2, _, _⟩ => ⟨k1, k2, h.ag k1 rfl⟩)
theorem in_ix {x : Int32} {n : Nat} (hn : n < 2147483648) : inF x 0 (nI n - 1) = bif ax_ix x n then 1 else 0 := ixc2 hn 0 1
/-! breath -/
def btS (x1 : Int32) (W : Wd) (f : Nat → Int32) : Int32 × Option (List Int64) := if inF x1 0 99 = 0 then (-1, none) else (brF W (itF W f (Int32.toNatClampNeg x1)).1, some (lstF (fun p => ((itF W f (Int32.toNatClampNeg x1)).1 (34 + p)).toInt64) (wp W)))
theorem C_breath (hd : 400 ≤ d) (h : CWo W f σ) : RnI (ev d 242 0 [(0, .ref 0), (1, .int x1)] [] (mkH σ)) (fun τ x => Ag kQc σ τ ∧ x = (btS x1 W f).1 ∧ TDx σ τ (btS x1 W f).2) := by
  obtain ⟨d, rfl⟩ : ∃ e, d = e + 10 := ⟨d - 10, by omega⟩
  have w9 := h.1.2.1
  unfold btS
  rw [g_Main_breath_0, c_Main_breath_4 K_in, g_Main_breath_7]
  by_cases hi : inF x1 0 99 = 0
  · rw [if_pos hi, if_pos hi, m1]; exact RnI.mk ⟨Ag.rf, rfl, rfl, rfl⟩
  · obtain ⟨n, n1, n2, rfl⟩ := in_n hi (a := 0) (b := 99) rfl rfl (by decide) (by decide)
    obtain ⟨τ, k1, k2, k3, k4⟩ := K_ahead (d := d + 2) h (xn := nI n) rfl (by omega)
    obtain ⟨τ2, t1, t2, t3⟩ := T_none (d := d + 8) (σ := τ)
    rw [if_neg hi, if_neg hi, c_Main_breath_14 k1, g_Main_breath_17, c_Main_breath_22 t1, g_Main_breath_25, cln (n := n) (by omega)]
    have tr2 : TR W (itF W f n).1 τ2 := k3.agH t2 rfl
    refine lpG (α := Sg) (n := wp W) (P := fun k ρ => Ag kQc σ ρ ∧ TR W (itF W f n).1 ρ ∧ TD ρ (lstF (fun p => ((itF W f n).1 (34 + p)).toInt64) k))
      (f := fun k ρ => ev (d + 10) 242 27 [(0, .ref 0), (1, .int (nI n)), (2, .ref (fo true)), (3, .int (nI k))] [] (mkH ρ)) (Q := fun o => RnI o _) ?_ ?_ (wp W) 0 τ2 (by omega) ⟨k2.tr (t2.wk rfl), tr2, t3⟩
    · rintro k ρ hk ⟨p1, p2, p3⟩ nx
      show RnI (ev (d + 10) 242 27 [(0, .ref 0), (1, .int (nI n)), (2, .ref (fo true)), (3, .int (nI k))] [] (mkH ρ)) _
      obtain ⟨ρ2, j1, j2, j3⟩ := T_add (d := d + 8) (x := ((itF W f n).1 (34 + k)).toInt64) p3 (by rw [lst_len]; omega)
      rw [g_Main_breath_27, p2.2.2.2.1.2.1, if_neg (nI_ge hk (by omega)), ixn (k := k) (by omega) (by decide), cond_true, cln (n := k) (by omega), (p2.2.2.1.2.1 k hk).2.2, c_Main_breath_46 j1, g_Main_breath_49, nI_1]
      refine nx ρ2 ⟨p1.tr (j2.wk rfl), p2.agH j2 rfl, ?_⟩
      rw [lst_s]; exact j3
    · rintro ρ ⟨p1, p2, p3⟩
      show RnI (ev (d + 10) 242 27 [(0, .ref 0), (1, .int (nI n)), (2, .ref (fo true)), (3, .int (nI (wp W)))] [] (mkH ρ)) _
      rw [g_Main_breath_27, p2.2.2.2.1.2.1, if_pos (nI_le (Nat.le_refl _) (by omega)), c_Main_breath_56 (F_brF p2.1 p2.2.2.1 p2.2.2.2.1), g_Main_breath_59]
      exact RnI.mk ⟨p1, rfl, p3⟩
theorem M_breath (hd : 400 ≤ d) (h : MWo W f σ) : RnI (ev d 81 0 [(0, .ref 50), (1, .int x1)] [] (mkH σ)) (fun τ x => Ag kQm σ τ ∧ x = (btS x1 W f).1 ∧ MDx σ τ (btS x1 W f).2) := by
  obtain ⟨d, rfl⟩ : ∃ e, d = e + 10 := ⟨d - 10, by omega⟩
  have w9 := h.1.2.1
  unfold btS
  have h1 : MWo W f (uI σ 3210 0) := h.nu rfl
  have a1 : Ag kQm σ (uI σ 3210 0) := Ag.I Ag.rf rfl
  rw [g_Model_breath_0, c_Model_breath_9 N_inF, g_Model_breath_12]
  by_cases hi : inF x1 0 99 = 0
  · rw [if_pos hi, if_pos hi, m1]; exact RnI.mk ⟨a1, rfl, rfl, rfl⟩
  · obtain ⟨n, n1, n2, rfl⟩ := in_n hi (a := 0) (b := 99) rfl rfl (by decide) (by decide)
    obtain ⟨τ, k1, k2, k3, k4⟩ := N_thenW (d := d + 3) (by omega) h1 (xn := nI n) rfl (by omega)
    rw [if_neg hi, if_neg hi, c_Model_breath_19 k1, g_Model_breath_22, cln (n := n) (by omega)]
    refine lpG (α := Sg) (n := wp W) (P := fun k ρ => Ag kQm σ ρ ∧ MW W ρ ∧ Lv W (sA ρ 62) (itF W f n).1 ∧ MD ρ (lstF (fun p => ((itF W f n).1 (34 + p)).toInt64) k))
      (f := fun k ρ => ev (d + 10) 81 29 [(0, .ref 50), (1, .int (nI n)), (2, .int (nI k))] [] (mkH ρ)) (Q := fun o => RnI o _) ?_ ?_ (wp W) 0 (uI τ 3209 0) (by omega) ⟨(a1.tr (k2.wk rfl)).tr (Ag.I Ag.rf rfl), (k4.nu rfl).2.2.1, k3, MD.nil⟩
    · rintro k ρ hk ⟨p1, p2, p3, p4⟩ nx
      show RnI (ev (d + 10) 81 29 [(0, .ref 50), (1, .int (nI n)), (2, .int (nI k))] [] (mkH ρ)) _
      obtain ⟨ρ2, j1, j2, j3⟩ := N_tell (d := d + 8) (x := ((itF W f n).1 (34 + k)).toInt64) p4 (by rw [lst_len]; omega)
      rw [g_Model_breath_29, p2.2.1, if_neg (nI_ge hk (by omega)), add34, ixn (k := 34 + k) (by omega) (by decide), cond_true, cln (n := 34 + k) (by omega), (p3.2.1 k hk).2.2, c_Model_breath_48 j1, g_Model_breath_51, nI_1]
      refine nx ρ2 ⟨p1.tr (j2.wk rfl), p2.ag j2 rfl, ?_, ?_⟩
      · rw [j2.2.1 62 rfl]; exact p3
      · rw [lst_s]; exact j3
    · rintro ρ ⟨p1, p2, p3, p4⟩
      show RnI (ev (d + 10) 81 29 [(0, .ref 50), (1, .int (nI n)), (2, .int (nI (wp W)))] [] (mkH ρ)) _
      rw [g_Model_breath_29, p2.2.1, if_pos (nI_le (Nat.le_refl _) (by omega)), c_Model_breath_62 (N_breath (v := true) h.1 p2 p3), g_Model_breath_65]
      exact RnI.mk ⟨p1, rfl, p4⟩
/-! arrives -/
def avS (x1 : Int32) (W : Wd) (f : Nat → Int32) : Int32 × Option (List Int64) := bif ax_ix x1 (wb W) then (match fsF (arP W f (Int32.toNatClampNeg x1)) 100 0 with
  | some k => (nI k, some [(hoF W (itF W f k).1 (Int32.toNatClampNeg x1)).toInt64])
  | none => (-2, none)) else (-1, none)
theorem C_arrives (hd : 400 ≤ d) (h : CWo W f σ) : RnI (ev d 239 0 [(0, .ref 0), (1, .int x1)] [] (mkH σ)) (fun τ x => Ag kQc σ τ ∧ x = (avS x1 W f).1 ∧ TDx σ τ (avS x1 W f).2) := by
  obtain ⟨d, rfl⟩ : ∃ e, d = e + 10 := ⟨d - 10, by omega⟩
  have w4 := h.1.1
  unfold avS
  rw [g_Main_arrives_0, c_Main_arrives_5 (F_hasB (w := false) h.2.2.1.1 (by omega)), g_Main_arrives_8]
  cases hx : ax_ix x1 (wb W) with
  | false => rw [cond_false, if_pos rfl, m1]; exact RnI.mk ⟨Ag.rf, rfl, rfl, rfl⟩
  | true =>
    obtain ⟨b, b1, b2, rfl⟩ := ix_of hx
    obtain ⟨τ, k1, k2, k3, k4⟩ := K_copy (d := d + 8) h
    obtain ⟨τ2, x, j1, j2, j3⟩ := K_till (d := d + 2) k3 b1 (m := 99) (xm := 99) rfl (by decide)
    rw [cond_true, if_neg (by decide), c_Main_arrives_21 k1, g_Main_arrives_24, c_Main_arrives_31 j1, g_Main_arrives_34, cond_true, cln (n := b) (by omega)]
    have a2 : Ag kQc σ τ2 := (k2.wk rfl).tr (j2.wk rfl)
    rcases j3 with ⟨k, q1, q2, q3, rfl, q5⟩ | ⟨q1, rfl⟩
    · have e : fsF (arP W f b) 100 0 = some k := by
        have := fs_at (P := arP W f b) 100 0 k (by omega) (by rw [Nat.zero_add]; exact q2) (fun j hj => by rw [Nat.zero_add]; exact q3 j hj)
        rwa [Nat.zero_add] at this
      obtain ⟨τ3, i1, i2, i3, i4⟩ := K_meas (d := d + 6) q5
      obtain ⟨τ4, t1, t2, t3⟩ := T_one (d := d + 7) (σ := τ3) (x := (hoF W (itF W f k).1 b).toInt64)
      rw [e, if_pos (nI_pos' (by omega)), c_Main_arrives_46 i1, g_Main_arrives_49, ixn (k := b) (by omega) (by decide), cond_true, cln (n := b) (by omega), show sA τ3 29 b = hoF W (itF W f k).1 b from (i4.1 b b1).2, c_Main_arrives_63 t1, g_Main_arrives_66]
      exact RnI.mk ⟨(a2.tr (i2.wk rfl)).tr (t2.wk rfl), rfl, t3⟩
    · have e : fsF (arP W f b) 100 0 = none := fs_no 100 0 (fun j hj => by rw [Nat.zero_add]; exact q1 j (by omega))
      rw [e, if_neg (by decide)]
      refine RnI.mk ⟨a2, rfl, ?_, ?_⟩
      · rw [j2.1 2817 rfl, k2.1 2817 rfl]
      · rw [j2.2.2.1 45 rfl, k2.2.2.1 45 rfl]
theorem M_arrives (hd : 400 ≤ d) (h : MWo W f σ) : RnI (ev d 78 0 [(0, .ref 50), (1, .int x1)] [] (mkH σ)) (fun τ x => Ag kQm σ τ ∧ x = (avS x1 W f).1 ∧ MDx σ τ (avS x1 W f).2) := by
  obtain ⟨d, rfl⟩ : ∃ e, d = e + 10 := ⟨d - 10, by omega⟩
  have w4 := h.1.1
  unfold avS
  have h1 : MWo W f (uI σ 3210 0) := h.nu rfl
  have a1 : Ag kQm σ (uI σ 3210 0) := Ag.I Ag.rf rfl
  rw [g_Model_arrives_0, c_Model_arrives_7 (N_isB h1.1 h1.2.2.1), g_Model_arrives_10]
  cases hx : ax_ix x1 (wb W) with
  | false => rw [cond_false, if_pos rfl, m1]; exact RnI.mk ⟨a1, rfl, rfl, rfl⟩
  | true =>
    obtain ⟨b, b1, b2, rfl⟩ := ix_of hx
    obtain ⟨τ, k1, k2, k3, k4⟩ := N_layW (d := d + 8) h1
    obtain ⟨τ2, x, j1, j2, j3⟩ := N_arrT (d := d + 4) (by omega) k4.1 k4.2.2.1 k4.2.1 k3 k4.2.2.2.2 b1
    rw [cond_true, if_neg (by decide), c_Model_arrives_24 k1, g_Model_arrives_27, c_Model_arrives_29 j1, g_Model_arrives_32, cond_true, cln (n := b) (by omega)]
    have a2 : Ag kQm σ τ2 := (a1.tr (k2.wk rfl)).tr (j2.wk rfl)
    have m2 : MWo W f τ2 := k4.ag j2 rfl
    rcases j3 with ⟨k, q1, q2, q3, rfl, q5⟩ | ⟨q1, rfl⟩
    · have e : fsF (arP W f b) 100 0 = some k := by
        have := fs_at (P := arP W f b) 100 0 k (by omega) (by rw [Nat.zero_add]; exact q2) (fun j hj => by rw [Nat.zero_add]; exact q3 j hj)
        rwa [Nat.zero_add] at this
      have hh := N_hold (d := d + 8) (v := true) (σ := uI τ2 3209 0) (b := b) h.1 (m2.nu rfl).2.2.1 (it_ok h.1 h.2.1 k) q5
      obtain ⟨τ4, t1, t2, t3⟩ := N_tell1 (d := d + 8) (σ := τ2) (x := (hoF W (itF W f k).1 b).toInt64)
      rw [e, if_pos (nI_pos' (by omega)), c_Model_arrives_52 hh, g_Model_arrives_55, c_Model_arrives_56 t1, g_Model_arrives_59]
      exact RnI.mk ⟨a2.tr (t2.wk rfl), rfl, t3⟩
    · have e : fsF (arP W f b) 100 0 = none := fs_no 100 0 (fun j hj => by rw [Nat.zero_add]; exact q1 j (by omega))
      rw [e, if_neg (by decide)]
      refine RnI.mk ⟨a2, rfl, ?_, ?_⟩
      · rw [j2.1 3209 rfl, k2.1 3209 rfl]; rfl
      · rw [j2.2.2.1 55 rfl, k2.2.2.1 55 rfl]; rfl
/-! meets -/
def mtP (W : Wd) (f : Nat → Int32) (a b k : Nat) : Bool := asF ((itF W f k).1 a - (itF W f k).1 b) == 1
def mtS (x1 x2 : Int32) (W : Wd) (f : Nat → Int32) : Int32 × Option (List Int64) := bif ax_ix x1 (wb W) && (ax_ix x2 (wb W) && !(x1 == x2)) then (match fsF (mtP W f (Int32.toNatClampNeg x1) (Int32.toNatClampNeg x2)) 100 0 with
  | some k => (nI k, some [((itF W f k).1 (Int32.toNatClampNeg x1)).toInt64, ((itF W f k).1 (Int32.toNatClampNeg x2)).toInt64])
  | none => (-2, none)) else (-1, none)
theorem C_meets (hd : 400 ≤ d) (h : CWo W f σ) : RnI (ev d 243 0 [(0, .ref 0), (1, .int x1), (2, .int x2)] [] (mkH σ)) (fun τ x => Ag kQc σ τ ∧ x = (mtS x1 x2 W f).1 ∧ TDx σ τ (mtS x1 x2 W f).2) := by
  obtain ⟨d, rfl⟩ : ∃ e, d = e + 10 := ⟨d - 10, by omega⟩
  have w4 := h.1.1
  unfold mtS
  rw [g_Main_meets_0, c_Main_meets_5 (F_hasB (w := false) h.2.2.1.1 (by omega)), g_Main_meets_8]
  cases hx : ax_ix x1 (wb W) with
  | false => rw [cond_false, if_pos rfl, m1]; exact RnI.mk ⟨Ag.rf, rfl, rfl, rfl⟩
  | true =>
    rw [cond_true, if_neg (by decide), c_Main_meets_16 (F_hasB (w := false) h.2.2.1.1 (by omega)), g_Main_meets_19]
    cases hy : ax_ix x2 (wb W) with
    | false => rw [cond_false, if_pos rfl, m1]; exact RnI.mk ⟨Ag.rf, rfl, rfl, rfl⟩
    | true =>
      rw [cond_true, if_neg (by decide)]
      by_cases hxy : x1 = x2
      · rw [if_pos hxy, m1, beq_t hxy]; exact RnI.mk ⟨Ag.rf, rfl, rfl, rfl⟩
      · obtain ⟨a, a1, a2, rfl⟩ := ix_of hx
        obtain ⟨b, b1, b2, rfl⟩ := ix_of hy
        obtain ⟨τ, k1, k2, k3, k4⟩ := K_copy (d := d + 8) h
        rw [if_neg hxy, beq_f hxy, c_Main_meets_37 k1, g_Main_meets_40, cln (n := a) (by omega), cln (n := b) (by omega)]
        show RnI _ (fun τ x => Ag kQc σ τ ∧ x = (match fsF (mtP W f a b) 100 0 with | some k => (nI k, some [((itF W f k).1 a).toInt64, ((itF W f k).1 b).toInt64]) | none => ((-2 : Int32), none)).1 ∧ TDx σ τ (match fsF (mtP W f a b) 100 0 with | some k => (nI k, some [((itF W f k).1 a).toInt64, ((itF W f k).1 b).toInt64]) | none => ((-2 : Int32), none)).2)
        generalize ht : fsF (mtP W f a b) 100 0 = tgt
        refine lpG (α := Sg) (n := 100) (P := fun k ρ => Ag kQc σ ρ ∧ TR W (itF W f k).1 ρ ∧ (sI ρ 2817 = sI σ 2817 ∧ sL ρ 45 = sL σ 45) ∧ fsF (mtP W f a b) (100 - k) k = tgt)
          (f := fun k ρ => ev (d + 10) 243 42 [(0, .ref 0), (1, .int (nI a)), (2, .int (nI b)), (3, .int (nI k))] [] (mkH ρ)) (Q := fun o => RnI o _) ?_ ?_ 100 0 τ (by omega) ⟨k2.wk rfl, k3, ⟨k2.1 2817 rfl, k2.2.2.1 45 rfl⟩, ht⟩
        · rintro k ρ hk ⟨p1, p2, p3, p4⟩ nx
          show RnI (ev (d + 10) 243 42 [(0, .ref 0), (1, .int (nI a)), (2, .int (nI b)), (3, .int (nI k))] [] (mkH ρ)) _
          rw [fs_1 hk] at p4
          rw [g_Main_meets_42, if_neg (show ¬ (99 : Int32) < nI k from nI_nlt (a := 99) (b := k) (by omega) (by decide)), c_Main_meets_54 (F_apart (w := true) (by omega) (by omega)), g_Main_meets_57, (p2.2.2.1.1 a a1).1, (p2.2.2.1.1 b b1).1]
          by_cases c : asF ((itF W f k).1 a - (itF W f k).1 b) = 1
          · rw [show mtP W f a b k = true from beq_t c, cond_true] at p4
            obtain ⟨ρ2, t1, t2, t3⟩ := T_two (d := d + 7) (σ := ρ) (x := ((itF W f k).1 a).toInt64) (y := ((itF W f k).1 b).toInt64)
            rw [if_pos c, ixn (k := a) (by omega) (by decide), cond_true, ixn (k := b) (by omega) (by decide), cond_true, cln (n := a) (by omega), cln (n := b) (by omega), show sA ρ 24 a = _ from (p2.2.2.1.1 a a1).1, show sA ρ 24 b = _ from (p2.2.2.1.1 b b1).1, c_Main_meets_85 t1, g_Main_meets_88, ← p4]
            exact RnI.mk ⟨p1.tr (t2.wk rfl), rfl, t3⟩
          · rw [show mtP W f a b k = false from beq_f c, cond_false] at p4
            obtain ⟨ρ2, y, t1, t2, t3, t4⟩ := K_pass (d := d + 3) p2 (n := 1) (xn := 1) rfl (by decide)
            rw [if_neg c, c_Main_meets_95 t1, g_Main_meets_98, nI_1]
            exact nx ρ2 ⟨p1.tr (t2.wk rfl), t3, ⟨(t2.1 2817 rfl).trans p3.1, (t2.2.2.1 45 rfl).trans p3.2⟩, p4⟩
        · rintro ρ ⟨p1, p2, p3, p4⟩
          show RnI (ev (d + 10) 243 42 [(0, .ref 0), (1, .int (nI a)), (2, .int (nI b)), (3, .int (nI 100))] [] (mkH ρ)) _
          rw [g_Main_meets_42, if_pos (by decide), ← p4]
          exact RnI.mk ⟨p1, rfl, p3⟩
theorem M_meets (hd : 400 ≤ d) (h : MWo W f σ) : RnI (ev d 82 0 [(0, .ref 50), (1, .int x1), (2, .int x2)] [] (mkH σ)) (fun τ x => Ag kQm σ τ ∧ x = (mtS x1 x2 W f).1 ∧ MDx σ τ (mtS x1 x2 W f).2) := by
  obtain ⟨d, rfl⟩ : ∃ e, d = e + 10 := ⟨d - 10, by omega⟩
  have w4 := h.1.1
  unfold mtS
  have h1 : MWo W f (uI σ 3210 0) := h.nu rfl
  have a0 : Ag kQm σ (uI σ 3210 0) := Ag.I Ag.rf rfl
  rw [g_Model_meets_0, c_Model_meets_8 (N_two h1.1 h1.2.2.1), g_Model_meets_11]
  cases hx : (ax_ix x1 (wb W) && (ax_ix x2 (wb W) && !(x1 == x2))) with
  | false => rw [cond_false, if_pos rfl, m1]; exact RnI.mk ⟨a0, rfl, rfl, rfl⟩
  | true =>
    obtain ⟨hx1, hx23⟩ := Bool.and_eq_true_iff.mp hx
    obtain ⟨hx2, hx3⟩ := Bool.and_eq_true_iff.mp hx23
    obtain ⟨a, a1, a2, rfl⟩ := ix_of hx1
    obtain ⟨b, b1, b2, rfl⟩ := ix_of hx2
    obtain ⟨τ, k1, k2, k3, k4⟩ := N_layW (d := d + 8) h1
    rw [cond_true, if_neg (by decide), c_Model_meets_25 k1, g_Model_meets_28, cond_true, cln (n := a) (by omega), cln (n := b) (by omega)]
    generalize ht : fsF (mtP W f a b) 100 0 = tgt
    refine lpG (α := Sg) (n := 100) (P := fun k ρ => Ag kQm σ ρ ∧ MWo W f ρ ∧ Lv W (sA ρ 62) (itF W f k).1 ∧ (sI ρ 3209 = sI σ 3209 ∧ sL ρ 55 = sL σ 55) ∧ fsF (mtP W f a b) (100 - k) k = tgt)
      (f := fun k ρ => ev (d + 10) 82 30 [(0, .ref 50), (1, .int (nI a)), (2, .int (nI b)), (3, .int (nI k))] [] (mkH ρ)) (Q := fun o => RnI o _) ?_ ?_ 100 0 τ (by omega) ⟨a0.tr (k2.wk rfl), k4, k3, ⟨k2.1 3209 rfl, k2.2.2.1 55 rfl⟩, ht⟩
    · rintro k ρ hk ⟨p1, p2, p25, p3, p4⟩ nx
      show RnI (ev (d + 10) 82 30 [(0, .ref 50), (1, .int (nI a)), (2, .int (nI b)), (3, .int (nI k))] [] (mkH ρ)) _
      rw [fs_1 hk] at p4
      rw [g_Model_meets_30, if_neg (show ¬ (99 : Int32) < nI k from nI_nlt (a := 99) (b := k) (by omega) (by decide)), ixn (k := a) (by omega) (by decide), cond_true, ixn (k := b) (by omega) (by decide), cond_true, cln (n := a) (by omega), cln (n := b) (by omega), (p25.1 a a1).1, (p25.1 b b1).1, cond_true]
      have eas : (if 0 ≤ (itF W f k).1 a - (itF W f k).1 b then (itF W f k).1 a - (itF W f k).1 b else 0 - ((itF W f k).1 a - (itF W f k).1 b)) = asF ((itF W f k).1 a - (itF W f k).1 b) := rfl
      rw [eas]
      by_cases c : asF ((itF W f k).1 a - (itF W f k).1 b) = 1
      · rw [show mtP W f a b k = true from beq_t c, cond_true] at p4
        obtain ⟨ρ2, t1, t2, t3⟩ := N_tell1 (d := d + 8) (σ := ρ) (x := ((itF W f k).1 a).toInt64)
        obtain ⟨ρ3, u1, u2, u3⟩ := N_tell2 (d := d + 8) (y := ((itF W f k).1 b).toInt64) t3
        rw [if_pos c, c_Model_meets_69 t1, g_Model_meets_72, ixn (k := b) (by omega) (by decide), cond_true, cln (n := b) (by omega), t2.2.1 62 rfl, (p25.1 b b1).1, c_Model_meets_80 u1, g_Model_meets_83, ← p4]
        exact RnI.mk ⟨(p1.tr (t2.wk rfl)).tr (u2.wk rfl), rfl, u3⟩
      · rw [show mtP W f a b k = false from beq_f c, cond_false] at p4
        obtain ⟨ρ2, t1, t2, t3, t4⟩ := N_hourW (d := d + 5) (by omega) p2 (it_ok h.1 h.2.1 k) p25
        rw [if_neg c, c_Model_meets_90 t1, g_Model_meets_93, nI_1]
        exact nx ρ2 ⟨p1.tr (t2.wk rfl), t4, t3, ⟨(t2.1 3209 rfl).trans p3.1, (t2.2.2.1 55 rfl).trans p3.2⟩, p4⟩
    · rintro ρ ⟨p1, p2, p25, p3, p4⟩
      show RnI (ev (d + 10) 82 30 [(0, .ref 50), (1, .int (nI a)), (2, .int (nI b)), (3, .int (nI 100))] [] (mkH ρ)) _
      rw [g_Model_meets_30, if_pos (by decide), ← p4]
      exact RnI.mk ⟨p1, rfl, p3⟩
/-! tires -/
def tiP (W : Wd) (f : Nat → Int32) (p k : Nat) : Bool := puF W (itF W f k).1 p == 0
def tiS (x1 : Int32) (W : Wd) (f : Nat → Int32) : Int32 × Option (List Int64) := bif ax_ix x1 (wp W) then (match fsF (tiP W f (Int32.toNatClampNeg x1)) 100 0 with
  | some k => (nI k, some [((itF W f k).1 (34 + Int32.toNatClampNeg x1)).toInt64])
  | none => (-2, none)) else (-1, none)
theorem C_tires (hd : 400 ≤ d) (h : CWo W f σ) : RnI (ev d 244 0 [(0, .ref 0), (1, .int x1)] [] (mkH σ)) (fun τ x => Ag kQc σ τ ∧ x = (tiS x1 W f).1 ∧ TDx σ τ (tiS x1 W f).2) := by
  obtain ⟨d, rfl⟩ : ∃ e, d = e + 10 := ⟨d - 10, by omega⟩
  have w9 := h.1.2.1
  unfold tiS
  rw [g_Main_tires_0, c_Main_tires_5 (F_hasP (w := false) h.2.2.1.2.1 (by omega)), g_Main_tires_8]
  cases hx : ax_ix x1 (wp W) with
  | false => rw [cond_false, if_pos rfl, m1]; exact RnI.mk ⟨Ag.rf, rfl, rfl, rfl⟩
  | true =>
    obtain ⟨a, a1, a2, rfl⟩ := ix_of hx
    obtain ⟨τ, k1, k2, k3, k4⟩ := K_copy (d := d + 8) h
    rw [cond_true, if_neg (by decide), c_Main_tires_21 k1, g_Main_tires_24, cond_true, cln (n := a) (by omega)]
    generalize ht : fsF (tiP W f a) 100 0 = tgt
    refine lpG (α := Sg) (n := 100) (P := fun k ρ => Ag kQc σ ρ ∧ TR W (itF W f k).1 ρ ∧ (sI ρ 2817 = sI σ 2817 ∧ sL ρ 45 = sL σ 45) ∧ fsF (tiP W f a) (100 - k) k = tgt)
      (f := fun k ρ => ev (d + 10) 244 26 [(0, .ref 0), (1, .int (nI a)), (2, .int (nI k))] [] (mkH ρ)) (Q := fun o => RnI o _) ?_ ?_ 100 0 τ (by omega) ⟨k2.wk rfl, k3, ⟨k2.1 2817 rfl, k2.2.2.1 45 rfl⟩, ht⟩
    · rintro k ρ hk ⟨p1, p2, p3, p4⟩ nx
      show RnI (ev (d + 10) 244 26 [(0, .ref 0), (1, .int (nI a)), (2, .int (nI k))] [] (mkH ρ)) _
      rw [fs_1 hk] at p4
      obtain ⟨ρ1, i1, i2, i3, i4⟩ := K_meas (d := d + 6) p2
      rw [g_Main_tires_26, if_neg (show ¬ (99 : Int32) < nI k from nI_nlt (a := 99) (b := k) (by omega) (by decide)), c_Main_tires_36 i1, g_Main_tires_39, ixn (k := a) (by omega) (by decide), cond_true, cln (n := a) (by omega), show sA ρ1 36 a = puF W (itF W f k).1 a from i4.2 a a1]
      by_cases c : puF W (itF W f k).1 a = 0
      · rw [show tiP W f a k = true from beq_t c, cond_true] at p4
        obtain ⟨ρ2, t1, t2, t3⟩ := T_one (d := d + 7) (σ := ρ1) (x := ((itF W f k).1 (34 + a)).toInt64)
        rw [if_pos c, cond_true, show sA ρ1 35 a = _ from (i3.2.2.1.2.1 a a1).2.2, c_Main_tires_65 t1, g_Main_tires_68, ← p4]
        exact RnI.mk ⟨(p1.tr (i2.wk rfl)).tr (t2.wk rfl), rfl, t3⟩
      · rw [show tiP W f a k = false from beq_f c, cond_false] at p4
        obtain ⟨ρ2, y, t1, t2, t3, t4⟩ := K_pass (d := d + 3) i3 (n := 1) (xn := 1) rfl (by decide)
        rw [if_neg c, c_Main_tires_75 t1, g_Main_tires_78, nI_1]
        exact nx ρ2 ⟨(p1.tr (i2.wk rfl)).tr (t2.wk rfl), t3, ⟨((t2.1 2817 rfl).trans (i2.1 2817 rfl)).trans p3.1, ((t2.2.2.1 45 rfl).trans (i2.2.2.1 45 rfl)).trans p3.2⟩, p4⟩
    · rintro ρ ⟨p1, p2, p3, p4⟩
      show RnI (ev (d + 10) 244 26 [(0, .ref 0), (1, .int (nI a)), (2, .int (nI 100))] [] (mkH ρ)) _
      rw [g_Main_tires_26, if_pos (by decide), ← p4]
      exact RnI.mk ⟨p1, rfl, p3⟩
theorem M_tires (hd : 400 ≤ d) (h : MWo W f σ) : RnI (ev d 83 0 [(0, .ref 50), (1, .int x1)] [] (mkH σ)) (fun τ x => Ag kQm σ τ ∧ x = (tiS x1 W f).1 ∧ MDx σ τ (tiS x1 W f).2) := by
  obtain ⟨d, rfl⟩ : ∃ e, d = e + 10 := ⟨d - 10, by omega⟩
  have w9 := h.1.2.1
  unfold tiS
  have h1 : MWo W f (uI σ 3210 0) := h.nu rfl
  have a0 : Ag kQm σ (uI σ 3210 0) := Ag.I Ag.rf rfl
  rw [g_Model_tires_0, c_Model_tires_7 (N_isM h1.1 h1.2.2.1), g_Model_tires_10]
  cases hx : ax_ix x1 (wp W) with
  | false => rw [cond_false, if_pos rfl, m1]; exact RnI.mk ⟨a0, rfl, rfl, rfl⟩
  | true =>
    obtain ⟨a, a1, a2, rfl⟩ := ix_of hx
    obtain ⟨τ, k1, k2, k3, k4⟩ := N_layW (d := d + 8) h1
    rw [cond_true, if_neg (by decide), c_Model_tires_24 k1, g_Model_tires_27, cond_true, cln (n := a) (by omega)]
    generalize ht : fsF (tiP W f a) 100 0 = tgt
    refine lpG (α := Sg) (n := 100) (P := fun k ρ => Ag kQm σ ρ ∧ MWo W f ρ ∧ Lv W (sA ρ 62) (itF W f k).1 ∧ (sI ρ 3209 = sI σ 3209 ∧ sL ρ 55 = sL σ 55) ∧ fsF (tiP W f a) (100 - k) k = tgt)
      (f := fun k ρ => ev (d + 10) 83 29 [(0, .ref 50), (1, .int (nI a)), (2, .int (nI k))] [] (mkH ρ)) (Q := fun o => RnI o _) ?_ ?_ 100 0 τ (by omega) ⟨a0.tr (k2.wk rfl), k4, k3, ⟨k2.1 3209 rfl, k2.2.2.1 55 rfl⟩, ht⟩
    · rintro k ρ hk ⟨p1, p2, p25, p3, p4⟩ nx
      show RnI (ev (d + 10) 83 29 [(0, .ref 50), (1, .int (nI a)), (2, .int (nI k))] [] (mkH ρ)) _
      rw [fs_1 hk] at p4
      obtain ⟨ρ1, y, i1, i2, i3⟩ := N_puff (d := d + 8) (v := true) (by omega) p2.1 p2.2.2.1 (it_ok h.1 h.2.1 k) p25 p2.2.2.2.2 a1
      have l1 : Lv W (sA ρ1 62) (itF W f k).1 := by rw [i2.2.1 62 rfl]; exact p25
      rw [g_Model_tires_29, if_neg (show ¬ (99 : Int32) < nI k from nI_nlt (a := 99) (b := k) (by omega) (by decide)), c_Model_tires_41 i1, g_Model_tires_44, i3]
      by_cases c : puF W (itF W f k).1 a = 0
      · rw [show tiP W f a k = true from beq_t c, cond_true] at p4
        obtain ⟨ρ2, t1, t2, t3⟩ := N_tell1 (d := d + 8) (σ := ρ1) (x := ((itF W f k).1 (34 + a)).toInt64)
        rw [if_pos c, add34, ixn (k := 34 + a) (by omega) (by decide), cond_true, cln (n := 34 + a) (by omega), (l1.2.1 a a1).2.2, c_Model_tires_63 t1, g_Model_tires_66, ← p4]
        exact RnI.mk ⟨(p1.tr (i2.wk rfl)).tr (t2.wk rfl), rfl, t3⟩
      · rw [show tiP W f a k = false from beq_f c, cond_false] at p4
        obtain ⟨ρ2, t1, t2, t3, t4⟩ := N_hourW (d := d + 5) (by omega) (p2.ag i2 rfl) (it_ok h.1 h.2.1 k) l1
        rw [if_neg c, c_Model_tires_73 t1, g_Model_tires_76, nI_1]
        exact nx ρ2 ⟨(p1.tr (i2.wk rfl)).tr (t2.wk rfl), t4, t3, ⟨((t2.1 3209 rfl).trans (i2.1 3209 rfl)).trans p3.1, ((t2.2.2.1 55 rfl).trans (i2.2.2.1 55 rfl)).trans p3.2⟩, p4⟩
    · rintro ρ ⟨p1, p2, p25, p3, p4⟩
      show RnI (ev (d + 10) 83 29 [(0, .ref 50), (1, .int (nI a)), (2, .int (nI 100))] [] (mkH ρ)) _
      rw [g_Model_tires_29, if_pos (by decide), ← p4]
      exact RnI.mk ⟨p1, rfl, p3⟩
end Q2
theorem op_breath : Op_breath 400 INV := fun d hd k σ a1 _ h => q_op (btS a1) (fun W f hW _ => by
  have := hW.2.1
  unfold btS; split
  · exact True.intro
  · show (lstF _ _).length ≤ 9
    rw [lst_len]; omega) (fun d σ W f hd h => C_breath hd h) (fun d σ W f hd h => M_breath hd h) hd h
theorem op_arrives : Op_arrives 400 INV := fun d hd k σ a1 _ h => q_op (avS a1) (fun W f hW _ => by
  unfold avS
  cases ax_ix a1 (wb W)
  · exact True.intro
  · rw [cond_true]
    cases fsF (arP W f (Int32.toNatClampNeg a1)) 100 0
    · exact True.intro
    · show 1 ≤ 9
      decide) (fun d σ W f hd h => C_arrives hd h) (fun d σ W f hd h => M_arrives hd h) hd h
theorem op_meets : Op_meets 400 INV := fun d hd k σ a1 a2 _ h => q_op (mtS a1 a2) (fun W f hW _ => by
  unfold mtS
  cases (ax_ix a1 (wb W) && (ax_ix a2 (wb W) && !(a1 == a2)))
  · exact True.intro
  · rw [cond_true]
    cases fsF (mtP W f (Int32.toNatClampNeg a1) (Int32.toNatClampNeg a2)) 100 0
    · exact True.intro
    · show 2 ≤ 9
      decide) (fun d σ W f hd h => C_meets hd h) (fun d σ W f hd h => M_meets hd h) hd h
theorem op_tires : Op_tires 400 INV := fun d hd k σ a1 _ h => q_op (tiS a1) (fun W f hW _ => by
  unfold tiS
  cases ax_ix a1 (wp W)
  · exact True.intro
  · rw [cond_true]
    cases fsF (tiP W f (Int32.toNatClampNeg a1)) 100 0
    · exact True.intro
    · show 1 ≤ 9
      decide) (fun d σ W f hd h => C_tires hd h) (fun d σ W f hd h => M_tires hd h) hd h
