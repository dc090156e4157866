/-! passengers: op -/
section PP
variable {d k n : Nat} {σ τ : Sg} {W : Wd} {f T : Nat → Int32}
/-- the class, where a line is wrong -/
theorem C_pno {q : Nat} (hq : q < 200) (e1 : ev (d + 9) 140 0 [(0, .ref 5), (1, .ref 1)] [] (mkH σ) = rI τ (-1)) (h66 : sI τ 66 = nI q) : ev (d + 10) 220 0 [(0, .ref 0)] [] (mkH σ) = rI (uI (uI (uI τ 65 0) 66 0) 67 0) (-1 - nI q) := by
  rw [g_Main_passengers_0, c_Main_passengers_8 e1, g_Main_passengers_11, if_pos (by decide), c_Main_passengers_33 (C_ans (d := d + 7)), g_Main_passengers_36, if_pos rfl, h66, if_pos (neg_tab q hq)]
theorem C_pwh {q z : Nat} (hq : q < 200) (hz : z < 200) (e1 : ev (d + 9) 140 0 [(0, .ref 5), (1, .ref 1)] [] (mkH σ) = rI τ (nI z)) (h66 : sI τ 66 = nI q) (h65 : sI τ 65 = nI n) (hn : n < 200) (hne : q ≠ n) : ev (d + 10) 220 0 [(0, .ref 0)] [] (mkH σ) = rI (uI (uI (uI τ 65 0) 66 0) 67 0) (-1 - nI q) := by
  have er : ev (d + 9) 207 0 [(0, .ref 1)] [] (mkH τ) = rI τ 0 := by
    rw [g_Script_isReadWhole_0, h66, h65, if_neg (nI_ne (by omega) (by omega) hne)]
  rw [g_Main_passengers_0, c_Main_passengers_8 e1, g_Main_passengers_11, if_neg (nI_pos (by omega)), c_Main_passengers_21 er, g_Main_passengers_24, if_pos rfl, c_Main_passengers_33 (C_ans (d := d + 7)), g_Main_passengers_36, if_pos rfl, h66, if_pos (neg_tab q hq)]
theorem op_passengers0 (hd : 400 ≤ d) (h : INV k σ) (hn : sI σ 65 = nI 0) : OpR (INV (k + 1)) d 220 37 [(0, .ref 0)] [(0, .ref 50)] σ := by
  obtain ⟨d, rfl⟩ : ∃ e, d = e + 10 := ⟨d - 10, by omega⟩
  have h0 := h
  obtain ⟨W, f, ⟨c, m, b3, b2⟩, ⟨n, n1, n2, n3, n4⟩, to, go, pa, ke⟩ := h
  have hn0 : n = 0 := Decidable.byContradiction (fun q => nI_ne (a := n) (b := 0) (by omega) (by decide) q (n2.symm.trans hn))
  subst hn0
  have e1 := g_Script_open_0 (d := d + 7) (σ := σ) (x1 := 35)
  generalize (if (35 : Int32) < sI σ 65 then (35 : Int32) else sI σ 65) = X at e1
  have a1 : Ag kMn σ (uI (uI σ 66 0) 67 X) := Ag.I (Ag.I Ag.rf rfl) rfl
  have s66 : sI (uI (uI σ 66 0) 67 X) 66 = 0 := rfl
  have s65 : sI (uI (uI σ 66 0) 67 X) 65 = 0 := n2
  have ol : OlC σ (uI (uI σ 66 0) 67 X) (wp W) := fun i hi => ⟨rfl, rfl, rfl, rfl⟩
  have e2 : ev (d + 9) 140 0 [(0, .ref 5), (1, .ref 1)] [] (mkH σ) = rI (uI (uI σ 66 0) 67 X) 0 := by
    rw [g_Fleet_draftPassengers_0, c_Fleet_draftPassengers_3 e1, g_Fleet_draftPassengers_6, s65, if_pos rfl]
  generalize uI (uI σ 66 0) 67 X = τ at a1 s66 s65 ol e2
  clear e1
  have er : ev (d + 9) 207 0 [(0, .ref 1)] [] (mkH τ) = rI τ 1 := by
    rw [g_Script_isReadWhole_0, s66, s65, if_pos rfl]
  have hcl : ev (d + 10) 220 0 [(0, .ref 0)] [] (mkH σ) = rI (uI (uI (uI τ 65 0) 66 0) 67 0) 0 := by
    rw [g_Main_passengers_0, c_Main_passengers_8 e2, g_Main_passengers_11, if_neg (by decide), c_Main_passengers_21 er, g_Main_passengers_24, if_neg (by decide), c_Main_passengers_33 (C_ans (d := d + 7)), g_Main_passengers_36, if_neg (show ¬ (1 : Int32) = 0 by decide), if_pos (show (0 : Int32) ≤ 0 by decide)]
  have aσ1 : Ag (65 :: kMn) σ (uI (uI (uI τ 65 0) 66 0) 67 0) := (a1.wk rfl).tr (Ag.I (Ag.I (Ag.I Ag.rf rfl) rfl) rfl)
  have ol1 : OlC σ (uI (uI (uI τ 65 0) 66 0) 67 0) (wp W) := ol
  have e65 : sI (uI (uI (uI τ 65 0) 66 0) 67 0) 65 = 0 := rfl
  have cw : CWo W f (uI (uI (uI τ 65 0) 66 0) 67 0) := c.ol aσ1 ol1
  generalize uI (uI (uI τ 65 0) 66 0) 67 0 = σ1 at aσ1 hcl e65 cw
  have a0 : Ag [3210] σ1 (uI σ1 3210 0) := Ag.I Ag.rf rfl
  obtain ⟨ρ, t1, t2, t3, t4, t5⟩ := N_text (d := d + 7) (k := 0) (σ := uI σ1 3210 0) (T := sA σ 2) (m := 35) (x := 35) n1 ((aσ1.1 3207 rfl).trans n3) (fun i hi => absurd hi (Nat.not_lt_zero i)) (by omega) rfl
  have aσ2 : Ag ([3210] ++ kT ++ kTm) σ1 ρ := (a0.wk rfl).tr (t2.wk rfl)
  have hml : ev (d + 10) 37 0 [(0, .ref 50)] [] (mkH σ1) = rI ρ 0 := by
    rw [g_Model_passengers_0, c_Model_passengers_8 t1, g_Model_passengers_11, t3.1, if_pos (show nI 0 = (0 : Int32) from rfl)]
  have aa : Ag (65 :: kMn ++ ([3210] ++ kT ++ kTm)) σ ρ := (aσ1.wk rfl).tr (aσ2.wk rfl)
  refine ⟨σ1, ρ, 0, hcl, hml, aσ1.2.2.2.2.2.2, aa.2.2.2.2.2.2, aa.2.2.2.2.2.1, ?_⟩
  exact h0.of (cw.ag aσ2 rfl) (m.ag aa rfl) (aa.2.2.2.1 3 rfl) (aa.2.2.2.1 2 rfl) (aa.2.2.2.1 0 rfl) ⟨0, by omega, (aσ2.1 65 rfl).trans e65, t5, fun i hi => absurd hi (Nat.not_lt_zero i)⟩ (to.ag aa rfl rfl) (go.ag aa rfl) (pa.ag aa rfl) (ke.ag aa rfl).mono
theorem op_passengers : Op_passengers 400 INV := by
  intro d hd k σ hk h
  have h0 := h
  obtain ⟨W, f, ⟨c, m, b3, b2⟩, ⟨n, n1, n2, n3, n4⟩, to, go, pa, ke⟩ := h
  rcases Nat.eq_zero_or_pos n with hz | hz
  · subst hz; exact op_passengers0 hd h0 n2
  obtain ⟨d, rfl⟩ : ∃ e, d = e + 10 := ⟨d - 10, by omega⟩
  have w4 := c.1.1
  have w9 := c.1.2.1
  obtain ⟨τ, y, e1, a1, ol, p1, p2⟩ := C_pass (d := d + 5) c n1 hz n2
  have t65 : sI τ 65 = nI n := (a1.1 65 rfl).trans n2
  -- the reference, from any state that the class has left
  have ref : ∀ σ1 : Sg, Ag ([65, 334, 2371, 10039] ++ kMn) σ σ1 → ∃ ρ, ev (d + 10) 37 0 [(0, .ref 50)] [] (mkH σ1) = ev (d + 10) 37 24 [(0, .ref 50), (1, .int (nI 0)), (2, .int 1)] [] (mkH ρ) ∧ Ag ([3210] ++ kT) σ1 ρ ∧ RD ρ (sA σ 2) n 35 0 ∧ sI ρ 3215 = -1 ∧ sI ρ 3207 = 0 ∧ sI ρ 3202 = nI (wb W) ∧ sI ρ 3203 = nI (wp W) := fun σ1 g => by
    have a0 : Ag [3210] σ1 (uI σ1 3210 0) := Ag.I Ag.rf rfl
    obtain ⟨ρ, t1, t2, t3, t4, t5⟩ := N_text (d := d + 7) (k := 0) (σ := uI σ1 3210 0) (T := sA σ 2) (m := 35) (x := 35) n1 ((g.1 3207 rfl).trans n3) (fun i hi => by
      show bT (sA σ1 54 i) _
      rw [g.2.1 54 rfl]; exact n4 i hi) (by omega) rfl
    refine ⟨ρ, ?_, (a0.wk rfl).tr (t2.wk rfl), t3, t4, t5, ?_, ?_⟩
    · rw [g_Model_passengers_0, c_Model_passengers_8 t1, g_Model_passengers_11, t3.1, if_neg (show ¬ nI n = (0 : Int32) from nI_ne (a := n) (b := 0) (by omega) (by decide) (by omega))]; rfl
    · exact (t2.1 3202 rfl).trans ((g.1 3202 rfl).trans m.2.2.1.1)
    · exact (t2.1 3203 rfl).trans ((g.1 3203 rfl).trans m.2.2.1.2.1)
  have no : ∀ q, q < 200 → ev (d + 10) 220 0 [(0, .ref 0)] [] (mkH σ) = rI (uI (uI (uI τ 65 0) 66 0) 67 0) (-1 - nI q) → (∀ ρ, RD ρ (sA σ 2) n 35 0 → sI ρ 3215 = -1 → sI ρ 3202 = nI (wb W) → sI ρ 3203 = nI (wp W) → RnI (ev (d + 10) 37 24 [(0, .ref 50), (1, .int (nI 0)), (2, .int 1)] [] (mkH ρ)) (fun τ y => Ag kTm ρ τ ∧ y = -1 - nI q)) → OpR (INV (k + 1)) (d + 10) 220 37 [(0, .ref 0)] [(0, .ref 50)] σ := fun q hq hcl hm => by
    have aσ1 : Ag (65 :: kMn) σ (uI (uI (uI τ 65 0) 66 0) 67 0) := (a1.wk rfl).tr (Ag.I (Ag.I (Ag.I Ag.rf rfl) rfl) rfl)
    have cw : CWo W f (uI (uI (uI τ 65 0) 66 0) 67 0) := c.ol aσ1 ol
    have e65 : sI (uI (uI (uI τ 65 0) 66 0) 67 0) 65 = 0 := rfl
    generalize uI (uI (uI τ 65 0) 66 0) 67 0 = σ1 at aσ1 hcl e65 cw
    obtain ⟨ρ, r1, r2, r3, r4, r5, r6, r7⟩ := ref σ1 (aσ1.wk rfl)
    obtain ⟨σ2, y, s1, s2, rfl⟩ := hm ρ r3 r4 r6 r7
    have aσ2 : Ag ([3210] ++ kT ++ kTm) σ1 σ2 := (r2.wk rfl).tr (s2.wk rfl)
    have aa : Ag (65 :: kMn ++ ([3210] ++ kT ++ kTm)) σ σ2 := (aσ1.wk rfl).tr (aσ2.wk rfl)
    refine ⟨σ1, σ2, _, hcl, r1.trans s1, aσ1.2.2.2.2.2.2, aa.2.2.2.2.2.2, aa.2.2.2.2.2.1, ?_⟩
    exact h0.of (cw.ag aσ2 rfl) (m.ag aa rfl) (aa.2.2.2.1 3 rfl) (aa.2.2.2.1 2 rfl) (aa.2.2.2.1 0 rfl) ⟨0, by omega, (aσ2.1 65 rfl).trans e65, (s2.1 3207 rfl).trans r5, fun i hi => absurd hi (Nat.not_lt_zero i)⟩ (to.ag aa rfl rfl) (go.ag aa rfl) (pa.ag aa rfl) (ke.ag aa rfl).mono
  have hM := fun ρ => M_men (d := d + 4) (P := wp W) (B := wb W) (n := n) (T := sA σ 2) w4 (9 - wp W) 0 ρ (by omega)
  cases hS : pmS (sA σ 2) (min n 35) (wb W) (9 - wp W) 0 with
  | mk ok z =>
  cases ok with
  | false =>
    obtain ⟨rfl, q66⟩ := p1 z hS
    have hb := pm_bad _ _ hS
    exact no z (by omega) (C_pno (by omega) e1 q66) (fun ρ x1 x2 x3 x4 => (hM ρ x1 x2 x3 x4 (fun j hj => absurd hj (Nat.not_lt_zero j))).1 z hS)
  | true =>
    obtain ⟨rfl, q66, ln⟩ := p2 z hS
    obtain ⟨z1, z2, z3⟩ := pm_ok _ _ hS
    have z4 := pf_lt (z3 (z - 1) (by omega) (by omega))
    by_cases hl : 4 * z - 1 < n
    · exact no (4 * z - 1) (by omega) (C_pwh (n := n) (by omega) (by omega) e1 q66 t65 (by omega) (by omega)) (fun ρ x1 x2 x3 x4 => ((hM ρ x1 x2 x3 x4 (fun j hj => absurd hj (Nat.not_lt_zero j))).2 z hS).1 hl)
    · have hn : 4 * z - 1 = n := by omega
      rw [hn] at q66
      have ln9 : ∀ j, j < z → n9 (heF (sA σ 2) (min n 35) (4 * j) - 48) ∧ ax_ix (heF (sA σ 2) (min n 35) (4 * j + 1) - 48) (wb W) = true := fun j hj => by
        obtain ⟨c0, c1, _⟩ := pf_none (z3 j (by omega) hj)
        obtain ⟨u, u0, u1, eu⟩ := in_n (a := 49) (b := 57) c0 rfl rfl (by decide) (by decide)
        have e47 : (48 : Int32) + nI (wb W) - 1 = nI (47 + wb W) := by
          rw [show (48 : Int32) + nI (wb W) = nI (48 + wb W) from nI_add 48 (wb W)]
          exact (nI_sub (a := 48 + wb W) (b := 1) (by omega)).trans (by rw [show 48 + wb W - 1 = 47 + wb W by omega])
        rw [e47] at c1
        have hB : 0 < wb W := Decidable.byContradiction (fun q => c1 (by
          rw [show wb W = 0 by omega]
          unfold inF
          by_cases y1 : heF (sA σ 2) (min n 35) (4 * j + 1) < 48
          · rw [if_pos y1]
          · rw [if_neg y1, if_pos]
            exact Int32.lt_of_lt_of_le (show nI 47 < nI 48 by decide) (Int32.not_lt.mp y1)))
        obtain ⟨v, v0, v1, ev'⟩ := in_n (a := 48) (b := 47 + wb W) c1 rfl rfl (by omega) (by omega)
        refine ⟨⟨u - 48, by omega, by rw [eu]; exact nI_sub (a := u) (b := 48) (by omega)⟩, ?_⟩
        rw [ev', show nI v - (48 : Int32) = nI (v - 48) from nI_sub (a := v) (b := 48) (by omega)]
        exact ixn (by omega) (by omega)
      have er : ev (d + 9) 207 0 [(0, .ref 1)] [] (mkH τ) = rI τ 1 := by
        rw [g_Script_isReadWhole_0, q66, t65, if_pos rfl]
      have aK : Ag ([65, 334] ++ kMn) σ (uI (uI (uI (uI τ 65 0) 66 0) 67 0) 334 (nI (wp W + z))) := (a1.wk rfl).tr (Ag.I (Ag.I (Ag.I (Ag.I Ag.rf rfl) rfl) rfl) rfl)
      obtain ⟨σ1, u1, u2, u3, u4⟩ := C_drop (d := d + 8) (σ := uI (uI (uI (uI τ 65 0) 66 0) 67 0) 334 (nI (wp W + z)))
      have s334 : sI (uI (uI (uI τ 65 0) 66 0) 67 0) 334 = nI (wp W) := (a1.1 334 rfl).trans c.2.2.1.2.1
      have hcl : ev (d + 10) 220 0 [(0, .ref 0)] [] (mkH σ) = rI σ1 (nI z) := by
        rw [g_Main_passengers_0, c_Main_passengers_8 e1, g_Main_passengers_11, if_neg (nI_pos (by omega)), c_Main_passengers_21 er, g_Main_passengers_24, if_neg (by decide), c_Main_passengers_33 (C_ans (d := d + 7)), g_Main_passengers_36, if_neg (show ¬ (1 : Int32) = 0 by decide), if_neg (show ¬ nI z ≤ (0 : Int32) from nI_ge (a := 0) (b := z) (by omega) (by omega)), s334, nI_add, c_Main_passengers_58 u1, g_Main_passengers_61]
      have aσ1 : Ag ([65, 334, 2371, 10039] ++ kMn) σ σ1 := (aK.wk rfl).tr (u2.wk rfl)
      have r18 : sA σ1 18 = sA τ 18 := (u2.2.1 18 rfl).trans rfl
      have r19 : sA σ1 19 = sA τ 19 := (u2.2.1 19 rfl).trans rfl
      have r20 : sA σ1 20 = sA τ 20 := (u2.2.1 20 rfl).trans rfl
      have r21 : sA σ1 21 = sA τ 21 := (u2.2.1 21 rfl).trans rfl
      have e65 : sI σ1 65 = nI 0 := (u2.1 65 rfl).trans rfl
      have e334 : sI σ1 334 = nI (wp W + z) := (u2.1 334 rfl).trans rfl
      obtain ⟨ρ, r1, r2, r3, r4, r5, r6, r7⟩ := ref σ1 aσ1
      obtain ⟨ω, k1, k2, k3⟩ := ((hM ρ r3 r4 r6 r7 (fun j hj => absurd hj (Nat.not_lt_zero j))).2 z hS).2 (by omega)
      obtain ⟨σ2, y, v1, v2, rfl, ⟨f1, f2, f3, f4⟩, v4, v5⟩ := M_fill (d := d + 8) (σ := ω) (P := wp W) (z := z) (by omega) ((k1.1 3203 rfl).trans r7) k2 (x2 := 0)
      have aσ2 : Ag ([3210] ++ kT ++ kTm ++ [10053, 10051, 3203, 3223, 3239]) σ1 σ2 := (r2.wk rfl).tr ((k1.wk rfl).tr (v2.wk rfl))
      have aa : Ag ([65, 334, 2371, 10039] ++ kMn ++ ([3210] ++ kT ++ kTm ++ [10053, 10051, 3203, 3223, 3239])) σ σ2 := (aσ1.wk rfl).tr (aσ2.wk rfl)
      have m51 : sA ω 51 = sA σ 51 := (k1.2.1 51 rfl).trans ((r2.2.1 51 rfl).trans (aσ1.2.1 51 rfl))
      have m53 : sA ω 53 = sA σ 53 := (k1.2.1 53 rfl).trans ((r2.2.1 53 rfl).trans (aσ1.2.1 53 rfl))
      have hWO : WO ((wb W, wp W + z, wc W), wK W, (fun p => if p < wp W then wl W p else heF (sA σ 2) (min n 35) (4 * (p - wp W)) - 48), wV W) := ⟨w4, (by show wp W + z ≤ 9; omega), c.1.2.2.1, c.1.2.2.2.1, c.1.2.2.2.2.1, fun p hp => (by
        have hp : p < wp W + z := hp
        show n9 (if p < wp W then wl W p else heF (sA σ 2) (min n 35) (4 * (p - wp W)) - 48)
        by_cases q : p < wp W
        · rw [if_pos q]; exact c.1.2.2.2.2.2 p q
        · rw [if_neg q]; exact (ln9 (p - wp W) (by omega)).1)⟩
      have sp : ∀ p, ¬ p < wp W → p < wp W + z → ∃ j, j < z ∧ p = wp W + j := fun p q1 q2 => ⟨p - wp W, by omega, by omega⟩
      have hOK : OK ((wb W, wp W + z, wc W), wK W, (fun p => if p < wp W then wl W p else heF (sA σ 2) (min n 35) (4 * (p - wp W)) - 48), wV W) (fpF (sA σ 2) (min n 35) (wp W) f) := ⟨fun b hb => (by
        have hb : b < wb W := hb
        rw [fp_o (by omega) w9, fp_o (by omega) w9, fp_o (by omega) w9, fp_o (by omega) w9]; exact c.2.1.1 b hb), fun p hp => (by
        have hp : p < wp W + z := hp
        by_cases q : p < wp W
        · rw [fp_o (by omega) w9, fp_o (by omega) w9, fp_o (by omega) w9]; exact c.2.1.2 p q
        · obtain ⟨j, j1, rfl⟩ := sp p q hp
          rw [fp_b (by omega), fp_a (by omega), fp_i (by omega)]
          refine ⟨(ln9 j j1).2, ?_, (ln9 j j1).1⟩
          split
          · exact Or.inr rfl
          · exact Or.inl rfl)⟩
      refine ⟨σ1, σ2, nI z, hcl, r1.trans (k3.trans v1), aσ1.2.2.2.2.2.2, aa.2.2.2.2.2.2, aa.2.2.2.2.2.1, ?_⟩
      refine h0.of (W := ((wb W, wp W + z, wc W), wK W, (fun p => if p < wp W then wl W p else heF (sA σ 2) (min n 35) (4 * (p - wp W)) - 48), wV W)) (f' := fpF (sA σ 2) (min n 35) (wp W) f) ⟨hWO, hOK, ⟨(aa.1 325 rfl).trans c.2.2.1.1, (aσ2.1 334 rfl).trans e334, fun p hp => ?_⟩, c.2.2.2.1.ag aa rfl, ⟨fun b hb => ?_, fun p hp => ?_, ?_⟩, ?_⟩ ⟨hWO, hOK, ⟨(aa.1 3202 rfl).trans m.2.2.1.1, f1, (aa.1 3201 rfl).trans m.2.2.1.2.2.1, fun i hi => (congrFun (aa.2.1 52 rfl) i).trans (m.2.2.1.2.2.2.1 i hi), fun p hp => ?_⟩, ⟨fun b hb => ?_, fun p hp => ?_, ?_⟩, m.2.2.2.2.ag aa rfl⟩ (aa.2.2.2.1 3 rfl) (aa.2.2.2.1 2 rfl) (aa.2.2.2.1 0 rfl) ⟨0, by omega, (aσ2.1 65 rfl).trans e65, (v2.1 3207 rfl).trans ((k1.1 3207 rfl).trans r5), fun i hi => absurd hi (Nat.not_lt_zero i)⟩ (to.ag aa rfl rfl) (go.ag aa rfl) (pa.new aa rfl ((aσ2.1 2371 rfl).trans u3) v4) (ke.new hk aa rfl (fun i hi => by rw [aσ2.2.1 39 rfl]; exact u4 i hi) (v5.trans ?_))
      · have hp : p < wp W + z := hp
        show sA σ2 18 p = if p < wp W then wl W p else heF (sA σ 2) (min n 35) (4 * (p - wp W)) - 48
        rw [aσ2.2.1 18 rfl, r18]
        by_cases q : p < wp W
        · rw [if_pos q, (ol p q).1]; exact c.2.2.1.2.2 p q
        · obtain ⟨j, j1, rfl⟩ := sp p q hp
          rw [if_neg q, (ln j j1).1, show wp W + j - wp W = j by omega]
      · have hb : b < wb W := hb
        rw [fp_o (by omega) w9, fp_o (by omega) w9, fp_o (by omega) w9, fp_o (by omega) w9]
        obtain ⟨s1, s2, s3, s4⟩ := c.2.2.2.2.1.1 b hb
        exact ⟨(congrFun (aa.2.1 10 rfl) b).trans s1, (congrFun (aa.2.1 11 rfl) b).trans s2, (congrFun (aa.2.1 12 rfl) b).trans s3, (congrFun (aa.2.1 13 rfl) b).trans s4⟩
      · have hp : p < wp W + z := hp
        show sA σ2 19 p = _ ∧ sA σ2 20 p = _ ∧ sA σ2 21 p = _
        rw [aσ2.2.1 19 rfl, aσ2.2.1 20 rfl, aσ2.2.1 21 rfl, r19, r20, r21]
        by_cases q : p < wp W
        · rw [fp_o (by omega) w9, fp_o (by omega) w9, fp_o (by omega) w9, (ol p q).2.1, (ol p q).2.2.1, (ol p q).2.2.2]
          exact c.2.2.2.2.1.2.1 p q
        · obtain ⟨j, j1, rfl⟩ := sp p q hp
          rw [fp_b (by omega), fp_a (by omega), fp_i (by omega)]
          exact (ln j j1).2
      · rw [fp_o (by omega) w9]; exact (aa.1 322 rfl).trans c.2.2.2.2.1.2.2
      · rw [aa.2.2.2.1 0 rfl]; exact c.2.2.2.2.2.ag aa (by cases sB σ 0 <;> rfl)
      · have hp : p < wp W + z := hp
        show sA σ2 53 p = if p < wp W then wl W p else heF (sA σ 2) (min n 35) (4 * (p - wp W)) - 48
        by_cases q : p < wp W
        · rw [if_pos q, f2 p q, m53]; exact m.2.2.1.2.2.2.2 p q
        · obtain ⟨j, j1, rfl⟩ := sp p q hp
          rw [if_neg q, (f3 j j1).1, show wp W + j - wp W = j by omega]
      · have hb : b < wb W := hb
        rw [fp_o (by omega) w9, fp_o (by omega) w9, fp_o (by omega) w9, fp_o (by omega) w9, f4 _ (by omega), f4 _ (by omega), f4 _ (by omega), f4 _ (by omega), m51]
        exact m.2.2.2.1.1 b hb
      · have hp : p < wp W + z := hp
        by_cases q : p < wp W
        · rw [fp_o (by omega) w9, fp_o (by omega) w9, fp_o (by omega) w9, f4 _ (by omega), f4 _ (by omega), f4 _ (by omega), m51]
          exact m.2.2.2.1.2.1 p q
        · obtain ⟨j, j1, rfl⟩ := sp p q hp
          rw [fp_b (by omega), fp_a (by omega), fp_i (by omega)]
          exact (f3 j j1).2
      · rw [fp_o (by omega) w9, f4 _ (by omega), m51]; exact m.2.2.2.1.2.2
      · rw [k1.1 3239 rfl, r2.1 3239 rfl, aσ1.1 3239 rfl]
end PP
