/-! Hours, by the reference -/
section MHOURS
variable {d : Nat} {σ : Sg} {v : Bool} {W : Wd} {f : Nat → Int32}
theorem N_w1 (hd : 300 ≤ d) (hW : WO W) (hw : MW W σ) (ho : OK W f) (hf : Lv W (sA σ (ma v)) f) (hr : MR σ (wV W)) {Q : Sg → Prop}
    (next : ∀ τ, Ag [10059, 40000, 3212, 3213, 3214, 3215, 3220, 10063, 10064] σ τ → (∀ b, b < wb W → sA τ 63 b = wiF W f b ∧ sA τ 64 b = hoF W f b) → RnV (ev (d + 4) 59 42 [(0, .ref 50), (1, .ref (ma v)), (2, .int 0)] [] (mkH τ)) Q) :
    RnV (ev (d + 4) 59 0 [(0, .ref 50), (1, .ref (ma v))] [] (mkH σ)) Q := by
  have w4 := hW.1
  rw [g_Model_goHour_0]
  refine lpG (α := Sg) (n := wb W) (P := fun k ρ => Ag [10059, 40000, 3212, 3213, 3214, 3215, 3220, 10063, 10064] σ ρ ∧ ∀ b, b < k → sA ρ 63 b = wiF W f b ∧ sA ρ 64 b = hoF W f b)
    (f := fun k ρ => ev (d + 4) 59 2 [(0, .ref 50), (1, .ref (ma v)), (2, .int (nI k))] [] (mkH ρ)) (Q := fun o => RnV o Q) ?_ ?_ (wb W) 0 σ (by omega) ⟨Ag.rf, fun b hb => absurd hb (Nat.not_lt_zero b)⟩
  · rintro k ρ hk ⟨p1, p2⟩ nx
    show RnV (ev (d + 4) 59 2 [(0, .ref 50), (1, .ref (ma v)), (2, .int (nI k))] [] (mkH ρ)) Q
    have hw' := hw.ag p1 rfl
    obtain ⟨τ, x, k1, k2, k3⟩ := N_wind (d := d + 1) (by omega) hW hw' ho (hf.ag p1 (by cases v <;> rfl)) (hr.ag p1 rfl) hk
    have a2 : Ag [10059, 40000, 3212, 3213, 3214, 3215, 3220, 10063, 10064] σ τ := p1.tr (k2.wk rfl)
    have a3 : Ag [10059, 40000, 3212, 3213, 3214, 3215, 3220, 10063, 10064] σ (uA τ 63 k x) := Ag.A a2 rfl
    rw [g_Model_goHour_2, hw'.1, if_neg (nI_ge hk (by omega)), c_Model_goHour_18 k1, g_Model_goHour_21, ixn (k := k) (by omega) (by decide), cond_true, cln (n := k) (by omega), c_Model_goHour_30 (N_hold hW (hw.ag a3 rfl) ho (hf.ag a3 (by cases v <;> rfl))), g_Model_goHour_33, ixn (k := k) (by omega) (by decide), cond_true, cln (n := k) (by omega), nI_1]
    refine nx _ ⟨Ag.A a3 rfl, fun b hb => ?_⟩
    rw [A_A (by decide), A_at, A_at, A_A (by decide), k2.2.1 63 rfl, k2.2.1 64 rfl]
    by_cases e : b = k
    · subst e; rw [if_pos rfl, if_pos rfl]; exact ⟨k3, rfl⟩
    · rw [if_neg e, if_neg e]; exact p2 b (by omega)
  · rintro ρ ⟨p1, p2⟩
    show RnV (ev (d + 4) 59 2 [(0, .ref 50), (1, .ref (ma v)), (2, .int (nI (wb W)))] [] (mkH ρ)) Q
    rw [g_Model_goHour_2, (hw.ag p1 rfl).1, if_pos (nI_le (Nat.le_refl _) (by omega))]
    exact next ρ p1 p2
theorem N_w2 (hd : 300 ≤ d) (hW : WO W) (hw : MW W σ) (ho : OK W f) (hf : Lv W (sA σ (ma v)) f) (hr : MR σ (wV W)) {Q : Sg → Prop}
    (next : ∀ τ, Ag [10059, 40000, 3212, 3213, 3214, 3215, 3220, 10065] σ τ → (∀ p, p < wp W → sA τ 65 p = puF W f p) → RnV (ev (d + 4) 59 70 [(0, .ref 50), (1, .ref (ma v)), (2, .int 0)] [] (mkH τ)) Q) :
    RnV (ev (d + 4) 59 42 [(0, .ref 50), (1, .ref (ma v)), (2, .int 0)] [] (mkH σ)) Q := by
  have w9 := hW.2.1
  refine lpG (α := Sg) (n := wp W) (P := fun k ρ => Ag [10059, 40000, 3212, 3213, 3214, 3215, 3220, 10065] σ ρ ∧ ∀ p, p < k → sA ρ 65 p = puF W f p)
    (f := fun k ρ => ev (d + 4) 59 42 [(0, .ref 50), (1, .ref (ma v)), (2, .int (nI k))] [] (mkH ρ)) (Q := fun o => RnV o Q) ?_ ?_ (wp W) 0 σ (by omega) ⟨Ag.rf, fun b hb => absurd hb (Nat.not_lt_zero b)⟩
  · rintro k ρ hk ⟨p1, p2⟩ nx
    show RnV (ev (d + 4) 59 42 [(0, .ref 50), (1, .ref (ma v)), (2, .int (nI k))] [] (mkH ρ)) Q
    have hw' := hw.ag p1 rfl
    obtain ⟨τ, x, k1, k2, k3⟩ := N_puff (d := d + 2) (by omega) hW hw' ho (hf.ag p1 (by cases v <;> rfl)) (hr.ag p1 rfl) hk
    rw [g_Model_goHour_42, hw'.2.1, if_neg (nI_ge hk (by omega)), c_Model_goHour_58 k1, g_Model_goHour_61, ixn (k := k) (by omega) (by decide), cond_true, cln (n := k) (by omega), nI_1]
    refine nx _ ⟨Ag.A (p1.tr (k2.wk rfl)) rfl, fun b hb => ?_⟩
    rw [A_at, k2.2.1 65 rfl]
    by_cases e : b = k
    · subst e; rw [if_pos rfl]; exact k3
    · rw [if_neg e]; exact p2 b (by omega)
  · rintro ρ ⟨p1, p2⟩
    show RnV (ev (d + 4) 59 42 [(0, .ref 50), (1, .ref (ma v)), (2, .int (nI (wp W)))] [] (mkH ρ)) Q
    rw [g_Model_goHour_42, (hw.ag p1 rfl).2.1, if_pos (nI_le (Nat.le_refl _) (by omega))]
    exact next ρ p1 p2
theorem N_hour (hd : 300 ≤ d) (hW : WO W) (hw : MW W σ) (ho : OK W f) (hf : Lv W (sA σ (ma v)) f) (hr : MR σ (wV W)) :
    RnV (ev (d + 4) 59 0 [(0, .ref 50), (1, .ref (ma v))] [] (mkH σ)) (fun τ => Ag (kHm v) σ τ ∧ Lv W (sA τ (ma v)) (hrF W f).1 ∧ sI τ 3229 = sI σ 3229 + (hrF W f).2.1 ∧ sI τ 3230 = sI σ 3230 + (hrF W f).2.2) := by
  refine N_w1 hd hW hw ho hf hr (fun τ1 a1 h1 => ?_)
  refine N_w2 hd hW (hw.ag a1 rfl) ho (hf.ag a1 (by cases v <;> rfl)) (hr.ag a1 rfl) (fun τ2 a2 h2 => ?_)
  have a12 : Ag (kHm v) σ τ2 := (a1.wk (by cases v <;> rfl)).tr (a2.wk (by cases v <;> rfl))
  have w2 := (hw.ag a1 rfl).ag a2 rfl
  have f2 := (hf.ag a1 (by cases v <;> rfl)).ag a2 (by cases v <;> rfl)
  have e63 : sA τ2 63 = sA τ1 63 := a2.2.1 63 rfl
  have e64 : sA τ2 64 = sA τ1 64 := a2.2.1 64 rfl
  refine N_goA hW w2 ho f2 (fun b hb => by rw [e63]; exact (h1 b hb).1) (fun b hb => by rw [e64]; exact (h1 b hb).2) (fun τ3 ⟨g1, a3, f3, c3, c4⟩ => ?_)
  have w3 := w2.ag a3 (by cases v <;> rfl)
  refine N_arr hW w3 f3 (fun τ4 a4 f4 => ?_)
  have hgf : ∀ i, 16 ≤ i → arG W (goH W f).1 i = f i := fun i hi => by
    have := hW.1
    rw [arG_o (by omega)]; exact g1.2 i (by omega)
  have e65 : sA τ4 65 = sA τ2 65 := by rw [a4.2.1 65 (by cases v <;> rfl), a3.2.1 65 (by cases v <;> rfl)]
  refine (N_brth hW (w3.ag a4 (by cases v <;> rfl)) ho (arG_ok hW g1.1) hgf f4 (by rw [e65]; exact h2)).im (fun τ5 ⟨a5, f5⟩ => ?_)
  refine ⟨(((a12.tr (a3.wk (by cases v <;> rfl))).tr (a4.wk (by cases v <;> rfl))).tr (a5.wk (by cases v <;> rfl))), ?_, ?_, ?_⟩
  · have e43 : arG W (goH W f).1 43 = (goH W f).1 43 := by
      have := hW.1
      exact arG_o (by omega)
    rw [e43, br_hr hW ho] at f5
    exact f5
  · rw [a5.1 3229 (by cases v <;> rfl), a4.1 3229 (by cases v <;> rfl), c3, a2.1 3229 rfl, a1.1 3229 rfl]; rfl
  · rw [a5.1 3230 (by cases v <;> rfl), a4.1 3230 (by cases v <;> rfl), c4, a2.1 3230 rfl, a1.1 3230 rfl]; rfl
theorem N_hours (hd : 300 ≤ d) (hW : WO W) (hw : MW W σ) (ho : OK W f) (hf : Lv W (sA σ (ma v)) f) (hr : MR σ (wV W)) {n : Nat} {xn : Int32} (hxn : xn = nI n) (hn : n < 2147483648) :
    RnV (ev (d + 5) 60 0 [(0, .ref 50), (1, .ref (ma v)), (2, .int xn)] [] (mkH σ)) (fun τ => Ag (kHm v) σ τ ∧ Lv W (sA τ (ma v)) (itF W f n).1 ∧ sI τ 3229 = (itF W f n).2.1 ∧ sI τ 3230 = (itF W f n).2.2) := by
  subst hxn
  rw [g_Model_goHours_0]
  refine lpG (α := Sg) (n := n) (P := fun k ρ => Ag (kHm v) σ ρ ∧ Lv W (sA ρ (ma v)) (itF W f k).1 ∧ sI ρ 3229 = (itF W f k).2.1 ∧ sI ρ 3230 = (itF W f k).2.2)
    (f := fun k ρ => ev (d + 5) 60 12 [(0, .ref 50), (1, .ref (ma v)), (2, .int (nI n)), (3, .int (nI k))] [] (mkH ρ)) (Q := fun o => RnV o _) ?_ ?_ n 0 (uI (uI σ 3229 0) 3230 0) (by omega) ⟨Ag.I (Ag.I Ag.rf (by cases v <;> rfl)) (by cases v <;> rfl), hf, rfl, rfl⟩
  · rintro k ρ hk ⟨p1, p2, p3, p4⟩ nx
    show RnV (ev (d + 5) 60 12 [(0, .ref 50), (1, .ref (ma v)), (2, .int (nI n)), (3, .int (nI k))] [] (mkH ρ)) _
    obtain ⟨τ, k1, k2, k3, k4, k5⟩ := N_hour (d := d) hd hW (hw.ag p1 (by cases v <;> rfl)) (it_ok hW ho k) p2 (hr.ag p1 (by cases v <;> rfl))
    rw [g_Model_goHours_12, if_neg (nI_ge hk (by omega)), c_Model_goHours_19 k1, g_Model_goHours_22, nI_1]
    refine nx τ ⟨p1.tr k2, k3, ?_, ?_⟩
    · rw [k4, p3]; rfl
    · rw [k5, p4]; rfl
  · rintro ρ ⟨p1, p2, p3, p4⟩
    show RnV (ev (d + 5) 60 12 [(0, .ref 50), (1, .ref (ma v)), (2, .int (nI n)), (3, .int (nI n))] [] (mkH ρ)) _
    rw [g_Model_goHours_12, if_pos (nI_le (Nat.le_refl n) (by omega))]
    exact RnV.mk ⟨p1, p2, p3, p4⟩
/-- a state laid aside -/
theorem N_lay_nt : RnV (ev (d + 1) 55 0 [(0, .ref 51), (1, .ref 62), (2, .int 0)] [] (mkH σ)) (fun τ => Ag [10062] σ τ ∧ ∀ i, i < 44 → sA τ 62 i = sA σ 51 i) := by
  rw [g_Model_lay_nt_0]
  refine lpG (α := Sg) (n := 44) (P := fun k ρ => Ag [10062] σ ρ ∧ ∀ i, i < k → sA ρ 62 i = sA σ 51 i)
    (f := fun k ρ => ev (d + 1) 55 2 [(0, .ref 51), (1, .ref 62), (2, .int 0), (3, .int (nI k))] [] (mkH ρ)) (Q := fun o => RnV o _) ?_ ?_ 44 0 σ (by omega) ⟨Ag.rf, fun i hi => absurd hi (Nat.not_lt_zero i)⟩
  · rintro k ρ hk ⟨p1, p2⟩ nx
    show RnV (ev (d + 1) 55 2 [(0, .ref 51), (1, .ref 62), (2, .int 0), (3, .int (nI k))] [] (mkH ρ)) _
    rw [g_Model_lay_nt_2, if_neg (show ¬ (44 : Int32) ≤ nI k from nI_ge (a := k) (b := 44) hk (by decide)), ixn (k := k) hk (by decide), cond_true, Int32.zero_add, ixn (k := k) hk (by decide), cond_true, cln (n := k) (by omega), nI_1]
    refine nx _ ⟨Ag.A p1 rfl, fun i hi => ?_⟩
    rw [A_at, p1.2.1 51 rfl]
    by_cases e : i = k
    · rw [if_pos e, e]
    · rw [if_neg e]; exact p2 i (by omega)
  · rintro ρ ⟨p1, p2⟩
    show RnV (ev (d + 1) 55 2 [(0, .ref 51), (1, .ref 62), (2, .int 0), (3, .int (nI 44))] [] (mkH ρ)) _
    rw [g_Model_lay_nt_2, if_pos (by decide)]
    exact RnV.mk ⟨p1, p2⟩
theorem Lv.of44 (hW : WO W) {g h : Nat → Int32} (e : ∀ i, i < 44 → h i = g i) (hg : Lv W g f) : Lv W h f := by
  have w4 := hW.1
  have w9 := hW.2.1
  refine ⟨fun b hb => ?_, fun p hp => ?_, ?_⟩
  · rw [e _ (by omega), e _ (by omega), e _ (by omega), e _ (by omega)]; exact hg.1 b hb
  · rw [e _ (by omega), e _ (by omega), e _ (by omega)]; exact hg.2.1 p hp
  · rw [e _ (by omega)]; exact hg.2.2
theorem N_then (hd : 300 ≤ d) (hW : WO W) (hw : MW W σ) (ho : OK W f) (hf : Lv W (sA σ 51) f) (hr : MR σ (wV W)) {n : Nat} {xn : Int32} (hxn : xn = nI n) (hn : n < 2147483648) :
    RnV (ev (d + 6) 75 0 [(0, .ref 50), (1, .int xn)] [] (mkH σ)) (fun τ => Ag (kHm true) σ τ ∧ Lv W (sA τ 62) (itF W f n).1) := by
  obtain ⟨τ1, k1, k2, k3⟩ := N_lay_nt (d := d + 4) (σ := σ)
  obtain ⟨τ2, j1, j2, j3, j4, j5⟩ := N_hours (v := true) (σ := τ1) hd hW (hw.ag k2 rfl) ho (Lv.of44 hW k3 hf) (hr.ag k2 rfl) hxn hn
  rw [g_Model_goThen_0, c_Model_goThen_9 k1, g_Model_goThen_12, c_Model_goThen_18 j1, g_Model_goThen_21]
  exact RnV.mk ⟨(k2.wk rfl).tr j2, j3⟩
theorem N_arrT (hd : 300 ≤ d) (hW : WO W) (hw : MW W σ) (ho : OK W f) (hf : Lv W (sA σ 62) f) (hr : MR σ (wV W)) {b : Nat} (hb : b < wb W) :
    RnI (ev (d + 5) 77 0 [(0, .ref 50), (1, .int (nI b))] [] (mkH σ)) (fun τ x => Ag (kHm true) σ τ ∧ ((∃ k, k ≤ 99 ∧ arP W f b k = true ∧ (∀ i, i < k → arP W f b i = false) ∧ x = nI k ∧ Lv W (sA τ 62) (itF W f k).1) ∨ ((∀ i, i ≤ 99 → arP W f b i = false) ∧ x = -2))) := by
  have w4 := hW.1
  rw [g_Model_arrivesThen_0]
  refine lpG (α := Sg) (n := 100) (P := fun k ρ => Ag (kHm true) σ ρ ∧ Lv W (sA ρ 62) (itF W f k).1 ∧ (∀ i, i < k → arP W f b i = false))
    (f := fun k ρ => ev (d + 5) 77 2 [(0, .ref 50), (1, .int (nI b)), (2, .int (nI k))] [] (mkH ρ)) (Q := fun o => RnI o _) ?_ ?_ 100 0 σ (by omega) ⟨Ag.rf, hf, fun i hi => absurd hi (Nat.not_lt_zero i)⟩
  · rintro k ρ hk ⟨p1, p2, p3⟩ nx
    show RnI (ev (d + 5) 77 2 [(0, .ref 50), (1, .int (nI b)), (2, .int (nI k))] [] (mkH ρ)) _
    have hok := it_ok hW ho k
    rw [g_Model_arrivesThen_2, if_neg (show ¬ (99 : Int32) < nI k from nI_nlt (a := 99) (b := k) (by omega) (by decide)), add12, ixn (k := 12 + b) (by omega) (by decide), cond_true, cln (n := 12 + b) (by omega), (p2.1 b hb).2.2.2]
    by_cases c : (itF W f k).1 (12 + b) = 0
    · have ek : arP W f b k = false := by unfold arP; rw [beq_t c]; rfl
      obtain ⟨τ, k1, k2, k3, k4, k5⟩ := N_hour (d := d) (v := true) hd hW (hw.ag p1 rfl) hok p2 (hr.ag p1 rfl)
      rw [if_neg (by rw [c]; decide), c_Model_arrivesThen_28 k1, g_Model_arrivesThen_31, nI_1]
      refine nx τ ⟨p1.tr k2, k3, fun i hi => ?_⟩
      by_cases e : i = k
      · rw [e]; exact ek
      · exact p3 i (by omega)
    · rw [if_pos (z1_n0 (hok.1 b hb).2.2.2 c)]
      exact RnI.mk ⟨p1, Or.inl ⟨k, by omega, by unfold arP; rw [beq_f c]; rfl, p3, rfl, p2⟩⟩
  · rintro ρ ⟨p1, p2, p3⟩
    show RnI (ev (d + 5) 77 2 [(0, .ref 50), (1, .int (nI b)), (2, .int (nI 100))] [] (mkH ρ)) _
    rw [g_Model_arrivesThen_2, if_pos (by decide)]
    exact RnI.mk ⟨p1, Or.inr ⟨fun i hi => p3 i (by omega), rfl⟩⟩
end MHOURS
