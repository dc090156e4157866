/-! count, row, barge, passenger, heard, forget -/
theorem INV.t {k : Nat} {σ : Sg} (h : INV k σ) : INV k (uT σ) := h
theorem op_mk {INVx : Sg → Prop} {d jc jm : Nat} {Lc Lm : ax_L} {σ : Sg} {Kc Km : List Nat} {P : Sg → Int32 → Prop} (hc : RnI (ev d jc 0 Lc [] (mkH σ)) (fun τ x => Ag Kc σ τ ∧ P τ x)) (hm : ∀ τ x, Ag Kc σ τ → P τ x → RnI (ev d jm 0 Lm [] (mkH τ)) (fun ρ y => Ag Km τ ρ ∧ y = x ∧ INVx ρ)) : OpR INVx d jc jm Lc Lm σ := by
  obtain ⟨σ1, r, c1, c2, c3⟩ := hc
  obtain ⟨σ2, r2, m1, m2, rfl, m4⟩ := hm σ1 r c2 c3
  exact ⟨σ1, σ2, r2, c1, m1, c2.2.2.2.2.2.2, m2.2.2.2.2.2.2.trans c2.2.2.2.2.2.2, m2.2.2.2.2.2.1.trans c2.2.2.2.2.2.1, m4⟩
/-- what a switch may find -/
theorem sw_n (x : Int32) (n : Nat) (hn : n < 2147483648) : (x.toInt < 0 ∨ (n : Int) < x.toInt) ∨ ∃ j, j ≤ n ∧ x = nI j := by
  by_cases h : x < 0
  · rw [Int32.lt_iff_toInt_lt, show (0 : Int32).toInt = 0 from by decide] at h
    exact Or.inl (Or.inl h)
  · obtain ⟨j, hj, rfl⟩ := nI_of h
    by_cases h2 : j ≤ n
    · exact Or.inr ⟨j, h2, rfl⟩
    · rw [nI_toInt hj]
      exact Or.inl (Or.inr (by omega))
theorem sw_out {x : Int32} {n : Nat} (hn : n < 2147483648) (h : x.toInt < 0 ∨ (n : Int) < x.toInt) : ax_ix x (n + 1) = false := by
  cases hx : ax_ix x (n + 1) with
  | false => rfl
  | true =>
    obtain ⟨j, j1, j2, rfl⟩ := ix_of hx
    rw [nI_toInt (by omega)] at h
    omega
section A1
variable {d k : Nat} {σ : Sg} {W : Wd} {f g : Nat → Int32} {x1 x2 : Int32}
theorem N_cargo (h : MWo W f σ) : ev (d + 1) 121 0 [(0, .ref 50)] [] (mkH σ) = rI σ (sumF (wb W) (fun b => f (8 + b))) := by
  have w4 := h.1.1
  rw [g_Model_cargo_0]
  refine acc_loop (f := fun k z => ev (d + 1) 121 4 [(0, .ref 50), (1, .int z), (2, .int (nI k))] [] (mkH σ)) (R := fun z => rI σ z) (n := wb W) (fun k z hk => ?_) (fun z => ?_) 0
  · show ev (d + 1) 121 4 [(0, .ref 50), (1, .int z), (2, .int (nI k))] [] (mkH σ) = _
    dsimp only
    rw [g_Model_cargo_4, h.2.2.1.1, if_neg (nI_ge hk (by omega)), add8, ixn (by omega) (by decide), cond_true, cln (by omega), nI_1, (h.2.2.2.1.1 k hk).2.2.1]
  · show ev (d + 1) 121 4 [(0, .ref 50), (1, .int z), (2, .int (nI (wb W)))] [] (mkH σ) = _
    rw [g_Model_cargo_4, h.2.2.1.1, if_pos (nI_le (Nat.le_refl _) (by omega))]
theorem op_count : Op_count 400 INV := by
  intro d hd k σ a1 _ h
  obtain ⟨d, rfl⟩ : ∃ e, d = e + 10 := ⟨d - 10, by omega⟩
  have h0 := h
  obtain ⟨W, f, ⟨c, m, b3, b2⟩, tx, to, go, pa, ke⟩ := h
  have w4 := c.1.1
  have w9 := c.1.2.1
  have a0 : Ag [3210] σ (uI σ 3210 0) := Ag.I Ag.rf rfl
  have m1 : MWo W f (uI σ 3210 0) := m.ag a0 rfl
  have hI : INV (k + 1) (uI σ 3210 0) := h0.keep a0 (to.ag a0 rfl rfl) (by decide) (by decide) (by decide) (by decide) (by decide) (by decide) (by decide)
  have fin : ∀ r, ev (d + 10) 270 0 [(0, .ref 0), (1, .int a1)] [] (mkH σ) = rI σ r → ev (d + 10) 122 0 [(0, .ref 50), (1, .int a1)] [] (mkH σ) = rI (uI σ 3210 0) r → OpR (INV (k + 1)) (d + 10) 270 122 [(0, .ref 0), (1, .int a1)] [(0, .ref 50), (1, .int a1)] σ :=
    fun r e1 e2 => ⟨σ, uI σ 3210 0, r, e1, e2, rfl, rfl, rfl, hI⟩
  rcases sw_n a1 11 (by decide) with hs | ⟨j, hj, rfl⟩
  · refine fin (-1) ?_ ?_
    · rw [g_Main_count_0, w_Main_count_1_d hs, g_Main_count_160]; rfl
    · rw [g_Model_count_0, w_Model_count_6_d hs, g_Model_count_143]; rfl
  · match j, hj with
    | 0, _ =>
      refine fin (nI (wc W)) ?_ ?_
      · show ev (d + 10) 270 0 [(0, .ref 0), (1, .int 0)] [] (mkH σ) = _
        rw [g_Main_count_0, w_Main_count_1_0, g_Main_count_64, c.2.2.2.1.1]
      · show ev (d + 10) 122 0 [(0, .ref 50), (1, .int 0)] [] (mkH σ) = _
        rw [g_Model_count_0, w_Model_count_6_0, g_Model_count_68, m1.2.2.1.2.2.1]
    | 1, _ =>
      refine fin (nI (wb W)) ?_ ?_
      · show ev (d + 10) 270 0 [(0, .ref 0), (1, .int 1)] [] (mkH σ) = _
        rw [g_Main_count_0, w_Main_count_1_1, g_Main_count_72, show sI σ 325 = nI (wb W) from c.2.2.1.1]
      · show ev (d + 10) 122 0 [(0, .ref 50), (1, .int 1)] [] (mkH σ) = _
        rw [g_Model_count_0, w_Model_count_6_1, g_Model_count_73, m1.2.2.1.1]
    | 2, _ =>
      refine fin (nI (wp W)) ?_ ?_
      · show ev (d + 10) 270 0 [(0, .ref 0), (1, .int 2)] [] (mkH σ) = _
        rw [g_Main_count_0, w_Main_count_1_2, g_Main_count_80, show sI σ 334 = nI (wp W) from c.2.2.1.2.1]
      · show ev (d + 10) 122 0 [(0, .ref 50), (1, .int 2)] [] (mkH σ) = _
        rw [g_Model_count_0, w_Model_count_6_2, g_Model_count_78, m1.2.2.1.2.1]
    | 3, _ =>
      refine fin (f 43) ?_ ?_
      · show ev (d + 10) 270 0 [(0, .ref 0), (1, .int 3)] [] (mkH σ) = _
        rw [g_Main_count_0, w_Main_count_1_3, g_Main_count_88, show sI σ 322 = f 43 from c.2.2.2.2.1.2.2]
      · show ev (d + 10) 122 0 [(0, .ref 50), (1, .int 3)] [] (mkH σ) = _
        rw [g_Model_count_0, w_Model_count_6_3, g_Model_count_83, m1.2.2.2.1.2.2]
    | 4, _ =>
      have e1 : bitsF (wb W) (fun p => !(sA σ (fa false 3) p == 0)) = thF W f := accF_congr (fun k y hk => by dsimp only [bitF]; rw [(c.2.2.2.2.1.1 k hk).2.2.2])
      refine fin (thF W f) ?_ ?_
      · show ev (d + 10) 270 0 [(0, .ref 0), (1, .int 4)] [] (mkH σ) = _
        rw [g_Main_count_0, w_Main_count_1_4, g_Main_count_96, c_Main_count_100 (F_there (w := false) c.2.2.1.1 c.1.1), g_Main_count_103, e1]
      · show ev (d + 10) 122 0 [(0, .ref 50), (1, .int 4)] [] (mkH σ) = _
        rw [g_Model_count_0, w_Model_count_6_4, g_Model_count_91, c_Model_count_96 (N_there (v := false) m1.1 m1.2.2.1 m1.2.1 m1.2.2.2.1), g_Model_count_99]
    | 5, _ =>
      refine fin (awF W f) ?_ ?_
      · show ev (d + 10) 270 0 [(0, .ref 0), (1, .int 5)] [] (mkH σ) = _
        rw [g_Main_count_0, w_Main_count_1_5, g_Main_count_104, c_Main_count_108 (F_awkF (w := false) c.1 c.2.2.2.2.1 c.2.2.1), g_Main_count_111]
      · show ev (d + 10) 122 0 [(0, .ref 50), (1, .int 5)] [] (mkH σ) = _
        rw [g_Model_count_0, w_Model_count_6_5, g_Model_count_100, c_Model_count_105 (N_awake (v := false) m1.1 m1.2.2.1 m1.2.1 m1.2.2.2.1), g_Model_count_108]
    | 6, _ =>
      refine fin (brF W f) ?_ ?_
      · show ev (d + 10) 270 0 [(0, .ref 0), (1, .int 6)] [] (mkH σ) = _
        rw [g_Main_count_0, w_Main_count_1_6, g_Main_count_112, c_Main_count_116 (F_brF (w := false) c.1 c.2.2.2.2.1 c.2.2.1), g_Main_count_119]
      · show ev (d + 10) 122 0 [(0, .ref 50), (1, .int 6)] [] (mkH σ) = _
        rw [g_Model_count_0, w_Model_count_6_6, g_Model_count_109, c_Model_count_114 (N_breath (v := false) m1.1 m1.2.2.1 m1.2.2.2.1), g_Model_count_117]
    | 7, _ =>
      have e1 : sumF (wb W) (fun p => sA σ (fa false 2) p) = sumF (wb W) (fun b => f (8 + b)) := accF_congr (fun k y hk => by dsimp only; rw [(c.2.2.2.2.1.1 k hk).2.2.1])
      refine fin (sumF (wb W) (fun b => f (8 + b))) ?_ ?_
      · show ev (d + 10) 270 0 [(0, .ref 0), (1, .int 7)] [] (mkH σ) = _
        rw [g_Main_count_0, w_Main_count_1_7, g_Main_count_120, c_Main_count_124 (F_cargo (w := false) c.2.2.1.1 c.1.1), g_Main_count_127, e1]
      · show ev (d + 10) 122 0 [(0, .ref 50), (1, .int 7)] [] (mkH σ) = _
        rw [g_Model_count_0, w_Model_count_6_7, g_Model_count_118, c_Model_count_119 (N_cargo m1), g_Model_count_122]
    | 8, _ =>
      obtain ⟨gm, g1, g2, g3, g4⟩ := go
      refine fin (nI gm) ?_ ?_
      · show ev (d + 10) 270 0 [(0, .ref 0), (1, .int 8)] [] (mkH σ) = _
        rw [g_Main_count_0, w_Main_count_1_8, g_Main_count_128, g2]
      · show ev (d + 10) 122 0 [(0, .ref 50), (1, .int 8)] [] (mkH σ) = _
        rw [g_Model_count_0, w_Model_count_6_8, g_Model_count_123, show sI (uI σ 3210 0) 3236 = nI gm from g3]
    | 9, _ =>
      obtain ⟨px, pm, q1, q2, q3, q4, q5, q6⟩ := pa
      refine fin (nI pm) ?_ ?_
      · show ev (d + 10) 270 0 [(0, .ref 0), (1, .int 9)] [] (mkH σ) = _
        rw [g_Main_count_0, w_Main_count_1_9, g_Main_count_136, q4]
      · show ev (d + 10) 122 0 [(0, .ref 50), (1, .int 9)] [] (mkH σ) = _
        rw [g_Model_count_0, w_Model_count_6_9, g_Model_count_128, show sI (uI σ 3210 0) 3223 = nI pm from q5]
    | 10, _ =>
      obtain ⟨l, l1, l2, l3⟩ := to
      refine fin (nI l.length) ?_ ?_
      · show ev (d + 10) 270 0 [(0, .ref 0), (1, .int 10)] [] (mkH σ) = _
        rw [g_Main_count_0, w_Main_count_1_10, g_Main_count_144, l2.1]
      · show ev (d + 10) 122 0 [(0, .ref 50), (1, .int 10)] [] (mkH σ) = _
        rw [g_Model_count_0, w_Model_count_6_10, g_Model_count_133, show sI (uI σ 3210 0) 3209 = nI l.length from l3.1]
    | 11, _ =>
      obtain ⟨n, n1, n2, n3, n4⟩ := tx
      refine fin (nI n) ?_ ?_
      · show ev (d + 10) 270 0 [(0, .ref 0), (1, .int 11)] [] (mkH σ) = _
        rw [g_Main_count_0, w_Main_count_1_11, g_Main_count_152, n2]
      · show ev (d + 10) 122 0 [(0, .ref 50), (1, .int 11)] [] (mkH σ) = _
        rw [g_Model_count_0, w_Model_count_6_11, g_Model_count_138, show sI (uI σ 3210 0) 3207 = nI n from n3]
    | j + 12, hj => exact absurd hj (by omega)
theorem INV.l {v : Int64} {i : Nat} (h : INV k σ) : INV k (uL σ 74 i v) := by
  obtain ⟨W, f, ⟨c, m, b3, b2⟩, tx, to, go, pa, ke⟩ := h
  have a : Ag [20074] σ (uL σ 74 i v) := Ag.L Ag.rf rfl
  exact ⟨W, f, ⟨c.ag a rfl, m.ag a rfl, b3, b2⟩, tx.ag a rfl, to.ag a rfl rfl, go.ag a rfl, pa.ag a rfl, ke.ag a rfl⟩
theorem op_row : Op_row 400 INV := by
  intro d hd k σ a1 _ h
  obtain ⟨d, rfl⟩ : ∃ e, d = e + 10 := ⟨d - 10, by omega⟩
  have h0 := h
  obtain ⟨W, f, ⟨c, m, b3, b2⟩, tx, ⟨l, l1, l2, l3⟩, go, pa, ke⟩ := h
  have keep : ∀ {τ ρ : Sg}, INV k τ → Ag [3210] τ ρ → INV (k + 1) ρ := fun {τ ρ} hi a => by
    have hi0 := hi
    obtain ⟨W, f, _, _, to, _⟩ := hi
    exact hi0.keep a (to.ag a rfl rfl) (by decide) (by decide) (by decide) (by decide) (by decide) (by decide) (by decide)
  have hin : ∀ {ρ : Sg}, sI ρ 3209 = nI l.length → ev (d + 9) 10 0 [(0, .int a1), (1, .int 0), (2, .int (sI ρ 3209 - 1))] [] (mkH (uI ρ 3210 0)) = rI (uI ρ 3210 0) (bif ax_ix a1 l.length then 1 else 0) := fun e => by rw [e]; exact N_inx (by omega)
  cases hx : ax_ix a1 l.length with
  | true =>
    obtain ⟨i, i1, i2, rfl⟩ := ix_of hx
    have hz : l[i]? = some l[i] := List.getElem?_eq_getElem i1
    refine Or.inl ⟨σ, uI (uL σ 74 0 l[i]) 3210 0, l[i], ?_, ?_, rfl, rfl, rfl, rfl, rfl, ?_⟩
    · rw [g_Main_row_0, if_neg (nI_pos (by omega)), l2.1, if_pos (nI_lt i1 (by omega)), ixn (k := i) (by omega) (by decide), cond_true, cln (n := i) (by omega), l2.2 i _ hz]
    · rw [g_Model_row_0, c_Model_row_13 (hin (ρ := uL σ 74 0 l[i]) l3.1), g_Model_row_16, hx, cond_true, if_neg (by decide), ixn (k := i) (by omega) (by decide), cond_true, cln (n := i) (by omega)]
      have : sL (uI (uL σ 74 0 l[i]) 3210 0) 55 i = l[i] := l3.2 i _ hz
      rw [this]
    · exact keep h0.l (Ag.I Ag.rf rfl)
  | false =>
    refine Or.inr ⟨uT σ, uI (uI (uT σ) 3210 0) 3210 1, (0 : Int32).toInt64, ?_, ?_, rfl, rfl, rfl, rfl, ?_⟩
    · rw [g_Main_row_0, l2.1]
      by_cases h1 : a1 < 0
      · rw [if_pos h1, t_Main_row_15]
      · obtain ⟨j, hj, rfl⟩ := nI_of h1
        have hjl : ¬ j < l.length := fun z => by rw [ixn z (by omega)] at hx; cases hx
        rw [if_neg h1, if_neg (nI_nlt (by omega) (by omega)), t_Main_row_15]
    · rw [g_Model_row_0, c_Model_row_13 (hin (ρ := uT σ) l3.1), g_Model_row_16, hx, cond_false, if_pos rfl, c_Model_row_29 (g_Model_lost_0 (d := d + 8)), g_Model_row_32]
    · exact keep h0.t (Ag.I (Ag.I Ag.rf rfl) rfl)
/-! an answer that may be thrown -/
theorem t_op {D jc jm : Nat} {Lc Lm : ax_L} (spec : Wd → (Nat → Int32) → Option Int32)
    (hc : ∀ d σ W f, D ≤ d → CWo W f σ → (∀ x, spec W f = some x → RnI (ev d jc 0 Lc [] (mkH σ)) (fun τ y => Ag kQc σ τ ∧ y = x ∧ TDn σ τ)) ∧ (spec W f = none → ∃ τ, ev d jc 0 Lc [] (mkH σ) = some (mkH (uT τ), none) ∧ Ag kQc σ τ ∧ TDn σ τ))
    (hm : ∀ d σ W f, D ≤ d → MWo W f σ → RnI (ev d jm 0 Lm [] (mkH σ)) (fun τ y => Ag kQm σ τ ∧ MDn σ τ ∧ (∀ x, spec W f = some x → y = x ∧ sI τ 3210 = 0) ∧ (spec W f = none → sI τ 3210 = 1)))
    {d : Nat} (hd : D ≤ d) (h : INV k σ) : OpT (INV (k + 1)) d jc jm Lc Lm σ := by
  have h0 := h
  obtain ⟨W, f, ⟨c, m, b3, b2⟩, tx, to, go, pa, ke⟩ := h
  obtain ⟨hc1, hc2⟩ := hc d σ W f hd c
  have keep : ∀ {τ ρ : Sg}, INV k τ → Ag kQc σ τ → TDn σ τ → Ag kQm τ ρ → MDn τ ρ → INV k τ → INV (k + 1) ρ := fun {τ ρ} hi a1 t1 a2 t2 _ => by
    have hi0 := hi
    obtain ⟨W, f, _, _, ⟨l, l1, l2, l3⟩, _⟩ := hi
    exact hi0.keep a2 ⟨l, l1, l2.ag a2 rfl, by unfold MD; rw [t2.1, t2.2]; exact l3⟩ (by decide) (by decide) (by decide) (by decide) (by decide) (by decide) (by decide)
  have mid : ∀ {τ : Sg}, Ag kQc σ τ → TDn σ τ → INV k τ := fun {τ} a t => ⟨W, f, ⟨c.ag a rfl, m.ag a rfl, by rw [a.2.2.2.1 3 rfl]; exact b3, by rw [a.2.2.2.1 2 rfl, a.2.2.2.1 0 rfl]; exact b2⟩, tx.ag a rfl, by
    obtain ⟨l, l1, l2, l3⟩ := to
    exact ⟨l, l1, by unfold TD; rw [t.1, t.2]; exact l2, l3.ag a rfl⟩, go.ag a rfl, pa.ag a rfl, ke.ag a rfl⟩
  cases hs : spec W f with
  | some x =>
    obtain ⟨σ1, r, c1, c2, rfl, c4⟩ := hc1 x hs
    have i1 := mid c2 c4
    have a74 : Ag [20074] σ1 (uL σ1 74 0 r.toInt64) := Ag.L Ag.rf rfl
    obtain ⟨σ2, r2, m1, m2, m3, m4, _⟩ := hm d (uL σ1 74 0 r.toInt64) W f hd ((m.ag c2 rfl).ag a74 rfl)
    obtain ⟨rfl, m6⟩ := m4 r hs
    have e74 : sL σ2 74 0 = r2.toInt64 := by
      rw [m2.2.2.1 74 rfl]; exact (congrFun L_S 0).trans vuS
    exact Or.inl ⟨σ1, σ2, r2, c1, m1, c2.2.2.2.2.2.2, m2.2.2.2.2.2.2.trans c2.2.2.2.2.2.2, m2.2.2.2.2.2.1.trans c2.2.2.2.2.2.1, m6, e74, by
      have hi := i1.l (v := r2.toInt64) (i := 0)
      have hi0 := hi
      obtain ⟨W, f, _, _, ⟨l, l1, l2, l3⟩, _⟩ := hi
      exact hi0.keep m2 ⟨l, l1, l2.ag m2 rfl, by unfold MD; rw [m3.1, m3.2]; exact l3⟩ (by decide) (by decide) (by decide) (by decide) (by decide) (by decide) (by decide)⟩
  | none =>
    obtain ⟨τ, c1, c2, c4⟩ := hc2 hs
    have i1 := (mid c2 c4).t
    obtain ⟨σ2, r2, m1, m2, m3, _, m5⟩ := hm d (uT τ) W f hd (show MWo W f (uT τ) from (m.ag c2 rfl : MWo W f τ))
    exact Or.inr ⟨uT τ, σ2, r2, c1, m1, c2.2.2.2.2.2.2, m2.2.2.2.2.2.2.trans c2.2.2.2.2.2.2, m2.2.2.2.2.2.1.trans (congrArg (· + 1) c2.2.2.2.2.2.1), m5 hs, by
      have hi0 := i1
      obtain ⟨W, f, _, _, ⟨l, l1, l2, l3⟩, _⟩ := i1
      exact hi0.keep m2 ⟨l, l1, l2.ag m2 rfl, by unfold MD; rw [m3.1, m3.2]; exact l3⟩ (by decide) (by decide) (by decide) (by decide) (by decide) (by decide) (by decide)⟩
def bgV (W : Wd) (f : Nat → Int32) (b j : Nat) : Int32 := match j with
  | 0 => f b
  | 1 => f (4 + b)
  | 2 => f (8 + b)
  | 3 => f (12 + b)
  | 4 => wiF W f b
  | 5 => hoF W f b
  | _ => abF W f (nI b)
def bgS (x1 x2 : Int32) (W : Wd) (f : Nat → Int32) : Option Int32 := bif ax_ix x1 (wb W) && ax_ix x2 7 then some (bgV W f (Int32.toNatClampNeg x1) (Int32.toNatClampNeg x2)) else none
theorem C_barge (hd : 400 ≤ d) (h : CWo W f σ) : (∀ x, bgS x1 x2 W f = some x → RnI (ev d 223 0 [(0, .ref 0), (1, .int x1), (2, .int x2)] [] (mkH σ)) (fun τ y => Ag kQc σ τ ∧ y = x ∧ TDn σ τ)) ∧ (bgS x1 x2 W f = none → ∃ τ, ev d 223 0 [(0, .ref 0), (1, .int x1), (2, .int x2)] [] (mkH σ) = some (mkH (uT τ), none) ∧ Ag kQc σ τ ∧ TDn σ τ) := by
  obtain ⟨d, rfl⟩ : ∃ e, d = e + 10 := ⟨d - 10, by omega⟩
  have w4 := h.1.1
  rw [g_Main_barge_0, c_Main_barge_5 (F_hasB (w := false) h.2.2.1.1 (by omega)), g_Main_barge_8]
  unfold bgS
  cases hx : ax_ix x1 (wb W) with
  | false =>
    refine ⟨fun x hz => (by rw [Bool.false_and] at hz; cases hz), fun _ => ⟨σ, ?_, Ag.rf, rfl, rfl⟩⟩
    rw [cond_false, if_pos rfl, t_Main_barge_11]
  | true =>
    obtain ⟨b, b1, b2, rfl⟩ := ix_of hx
    obtain ⟨τ, j1, j2, j3, j4⟩ := K_now (d := d + 6) h
    rw [cond_true, if_neg (by decide), c_Main_barge_25 j1, g_Main_barge_28, Bool.true_and]
    have g1 : Ag kQc σ τ := j2.wk rfl
    have g2 : TDn σ τ := tdn j2 rfl
    rcases sw_n x2 6 (by decide) with hs | ⟨j, hj, rfl⟩
    · rw [sw_out (by decide) hs]
      refine ⟨fun x hz => (by cases hz), fun _ => ⟨τ, ?_, g1, g2⟩⟩
      rw [w_Main_barge_29_d hs, t_Main_barge_149]
    · rw [ixn (show j < 7 by omega) (by decide), cond_true, cln (n := b) (by omega), cln (n := j) (by omega)]
      refine ⟨fun x hz => ?_, fun hz => (by cases hz)⟩
      have hz : bgV W f b j = x := Option.some.inj hz
      subst hz
      have ib : ax_ix (nI b) 4 = true := ixn (by omega) (by decide)
      obtain ⟨q1, q2, q3, q4⟩ := j3.2.2.2.2.1.1 b b1
      match j, hj with
      | 0, _ =>
        show RnI (ev (d + 10) 223 29 [(0, .ref 0), (1, .int (nI b)), (2, .int 0)] [.int 0] (mkH τ)) _
        rw [w_Main_barge_29_0, g_Main_barge_72, ib, cond_true, cln (n := b) (by omega), show sA τ 10 b = f b from q1]
        exact RnI.mk ⟨g1, rfl, g2⟩
      | 1, _ =>
        show RnI (ev (d + 10) 223 29 [(0, .ref 0), (1, .int (nI b)), (2, .int 1)] [.int 1] (mkH τ)) _
        rw [w_Main_barge_29_1, g_Main_barge_82, ib, cond_true, cln (n := b) (by omega), show sA τ 11 b = f (4 + b) from q2]
        exact RnI.mk ⟨g1, rfl, g2⟩
      | 2, _ =>
        show RnI (ev (d + 10) 223 29 [(0, .ref 0), (1, .int (nI b)), (2, .int 2)] [.int 2] (mkH τ)) _
        rw [w_Main_barge_29_2, g_Main_barge_92, ib, cond_true, cln (n := b) (by omega), show sA τ 12 b = f (8 + b) from q3]
        exact RnI.mk ⟨g1, rfl, g2⟩
      | 3, _ =>
        show RnI (ev (d + 10) 223 29 [(0, .ref 0), (1, .int (nI b)), (2, .int 3)] [.int 3] (mkH τ)) _
        rw [w_Main_barge_29_3, g_Main_barge_102, ib, cond_true, cln (n := b) (by omega), show sA τ 13 b = f (12 + b) from q4]
        rcases (h.2.1.1 b b1).2.2.2 with e | e
        · rw [if_pos e]; exact RnI.mk ⟨g1, e.symm, g2⟩
        · rw [if_neg (by rw [e]; decide)]; exact RnI.mk ⟨g1, e.symm, g2⟩
      | 4, _ =>
        show RnI (ev (d + 10) 223 29 [(0, .ref 0), (1, .int (nI b)), (2, .int 4)] [.int 4] (mkH τ)) _
        rw [w_Main_barge_29_4, g_Main_barge_120, ib, cond_true, cln (n := b) (by omega), show sA τ 14 b = wiF W f b from (j4.1 b b1).1]
        exact RnI.mk ⟨g1, rfl, g2⟩
      | 5, _ =>
        show RnI (ev (d + 10) 223 29 [(0, .ref 0), (1, .int (nI b)), (2, .int 5)] [.int 5] (mkH τ)) _
        rw [w_Main_barge_29_5, g_Main_barge_130, ib, cond_true, cln (n := b) (by omega), show sA τ 15 b = hoF W f b from (j4.1 b b1).2]
        exact RnI.mk ⟨g1, rfl, g2⟩
      | 6, _ =>
        show RnI (ev (d + 10) 223 29 [(0, .ref 0), (1, .int (nI b)), (2, .int 6)] [.int 6] (mkH τ)) _
        rw [w_Main_barge_29_6, g_Main_barge_140, c_Main_barge_145 (F_abF (w := false) j3.1 j3.2.2.2.2.1 j3.2.2.1), g_Main_barge_148]
        exact RnI.mk ⟨g1, rfl, g2⟩
      | j + 7, hj => exact absurd hj (by omega)
theorem M_barge (hd : 400 ≤ d) (h : MWo W f σ) : RnI (ev d 51 0 [(0, .ref 50), (1, .int x1), (2, .int x2)] [] (mkH σ)) (fun τ y => Ag kQm σ τ ∧ MDn σ τ ∧ (∀ x, bgS x1 x2 W f = some x → y = x ∧ sI τ 3210 = 0) ∧ (bgS x1 x2 W f = none → sI τ 3210 = 1)) := by
  obtain ⟨d, rfl⟩ : ∃ e, d = e + 10 := ⟨d - 10, by omega⟩
  have w4 := h.1.1
  have h1 : MWo W f (uI σ 3210 0) := h.nu rfl
  have a0 : Ag kQm σ (uI σ 3210 0) := Ag.I Ag.rf rfl
  rw [g_Model_barge_0, c_Model_barge_7 (N_isB h1.1 h1.2.2.1), g_Model_barge_10]
  unfold bgS
  have lost : RnI (ev (d + 10) 51 24 [(0, .ref 50), (1, .int x1), (2, .int x2)] [.ref 50] (mkH (uI σ 3210 0))) (fun τ y => Ag kQm σ τ ∧ MDn σ τ ∧ (∀ x, (none : Option Int32) = some x → y = x ∧ sI τ 3210 = 0) ∧ ((none : Option Int32) = none → sI τ 3210 = 1)) := by
    rw [c_Model_barge_24 (g_Model_lost_0 (d := d + 8)), g_Model_barge_27]
    exact RnI.mk ⟨a0.tr (Ag.I Ag.rf rfl), ⟨rfl, rfl⟩, fun x hz => (by cases hz), fun _ => I_S⟩
  cases hx : ax_ix x1 (wb W) with
  | false => rw [cond_false, if_pos rfl, Bool.false_and]; exact lost
  | true =>
    rw [cond_true, if_neg (by decide), c_Model_barge_17 N_inF, g_Model_barge_20, Bool.true_and]
    have ein : inF x2 0 6 = bif ax_ix x2 7 then 1 else 0 := in_ix (n := 7) (by decide)
    rw [ein]
    cases hy : ax_ix x2 7 with
    | false => rw [cond_false, if_pos rfl]; exact lost
    | true =>
      obtain ⟨b, b1, b2, rfl⟩ := ix_of hx
      obtain ⟨j, j1, j2, rfl⟩ := ix_of hy
      rw [cond_true, if_neg (by decide), cond_true, cln (n := b) (by omega), cln (n := j) (by omega)]
      have fin : ∀ {τ : Sg}, Ag kP (uI σ 3210 0) τ → RnI (rI τ (bgV W f b j)) (fun τ y => Ag kQm σ τ ∧ MDn σ τ ∧ (∀ x, some (bgV W f b j) = some x → y = x ∧ sI τ 3210 = 0) ∧ (some (bgV W f b j) = none → sI τ 3210 = 1)) := fun {τ} a => RnI.mk ⟨a0.tr (a.wk rfl), (show MDn σ τ from ⟨(a.1 3209 rfl).trans rfl, (a.2.2.1 55 rfl).trans rfl⟩), fun x hz => ⟨Option.some.inj hz, (a.1 3210 rfl).trans I_S⟩, fun hz => (by cases hz)⟩
      have l1 := h1.2.2.2.1
      have lo : ∀ j, j < 4 → RnI (if (4 : Int32) ≤ nI j then (if nI j = 4 then ev (d + 10) 51 57 [(0, .ref 50), (1, .int (nI b)), (2, .int (nI j))] [.int (nI b), .ref 51, .ref 50] (mkH (uI σ 3210 0)) else (if nI j = 5 then ev (d + 10) 51 74 [(0, .ref 50), (1, .int (nI b)), (2, .int (nI j))] [.int (nI b), .ref 51, .ref 50] (mkH (uI σ 3210 0)) else ev (d + 10) 51 86 [(0, .ref 50), (1, .int (nI b)), (2, .int (nI j))] [.int (nI b), .ref 51, .ref 50] (mkH (uI σ 3210 0)))) else (bif ax_ix (4 * nI j + nI b) 44 then rI (uI σ 3210 0) (sA (uI σ 3210 0) 51 (Int32.toNatClampNeg (4 * nI j + nI b))) else none)) (fun τ y => Ag kQm σ τ ∧ MDn σ τ ∧ (∀ x, some (bgV W f b j) = some x → y = x ∧ sI τ 3210 = 0) ∧ (some (bgV W f b j) = none → sI τ 3210 = 1)) := by
        intro j hj
        have e4 : (4 : Int32) * nI j + nI b = nI (4 * j + b) := by rw [show (4 : Int32) * nI j = nI (4 * j) from (Int32.ofNat_mul 4 j).symm, nI_add]
        have ev4 : sA (uI σ 3210 0) 51 (4 * j + b) = bgV W f b j := by
          match j, hj with
          | 0, _ => rw [Nat.mul_zero, Nat.zero_add]; exact (l1.1 b b1).1
          | 1, _ => exact (l1.1 b b1).2.1
          | 2, _ => exact (l1.1 b b1).2.2.1
          | 3, _ => exact (l1.1 b b1).2.2.2
        rw [if_neg (show ¬ (4 : Int32) ≤ nI j from nI_ge (a := j) (b := 4) hj (by decide)), e4, ixn (by omega) (by decide), cond_true, cln (by omega), ev4]
        exact RnI.mk ⟨a0, ⟨rfl, rfl⟩, fun x hz => ⟨Option.some.inj hz, I_S⟩, fun hz => (by cases hz)⟩
      match j, j1 with
      | 0, _ => exact lo 0 (by decide)
      | 1, _ => exact lo 1 (by decide)
      | 2, _ => exact lo 2 (by decide)
      | 3, _ => exact lo 3 (by decide)
      | 4, _ =>
        obtain ⟨τ, y, k1, k2, k3⟩ := N_wind (d := d + 7) (v := false) (by omega) h1.1 h1.2.2.1 h1.2.1 h1.2.2.2.1 h1.2.2.2.2 b1
        rw [if_pos (by decide), if_pos (by decide), c_Model_barge_57 k1, g_Model_barge_60, k3]
        exact fin k2
      | 5, _ =>
        rw [if_pos (by decide), if_neg (by decide), if_pos (by decide), c_Model_barge_74 (N_hold (v := false) h1.1 h1.2.2.1 h1.2.1 h1.2.2.2.1), g_Model_barge_77]
        exact fin Ag.rf
      | 6, _ =>
        rw [if_pos (by decide), if_neg (by decide), if_neg (by decide), c_Model_barge_86 (N_aboard (v := false) h1.1 h1.2.2.1 h1.2.2.2.1), g_Model_barge_89]
        exact fin Ag.rf
      | j + 7, hj => exact absurd hj (by omega)
def psV (W : Wd) (f : Nat → Int32) (p j : Nat) : Int32 := match j with
  | 0 => wl W p
  | 1 => f (16 + p)
  | 2 => f (25 + p)
  | 3 => f (34 + p)
  | _ => puF W f p
def psS (x1 x2 : Int32) (W : Wd) (f : Nat → Int32) : Option Int32 := bif ax_ix x1 (wp W) && ax_ix x2 5 then some (psV W f (Int32.toNatClampNeg x1) (Int32.toNatClampNeg x2)) else none
theorem C_passenger (hd : 400 ≤ d) (h : CWo W f σ) : (∀ x, psS x1 x2 W f = some x → RnI (ev d 224 0 [(0, .ref 0), (1, .int x1), (2, .int x2)] [] (mkH σ)) (fun τ y => Ag kQc σ τ ∧ y = x ∧ TDn σ τ)) ∧ (psS x1 x2 W f = none → ∃ τ, ev d 224 0 [(0, .ref 0), (1, .int x1), (2, .int x2)] [] (mkH σ) = some (mkH (uT τ), none) ∧ Ag kQc σ τ ∧ TDn σ τ) := by
  obtain ⟨d, rfl⟩ : ∃ e, d = e + 10 := ⟨d - 10, by omega⟩
  have w9 := h.1.2.1
  rw [g_Main_passenger_0, c_Main_passenger_5 (F_hasP (w := false) h.2.2.1.2.1 (by omega)), g_Main_passenger_8]
  unfold psS
  cases hx : ax_ix x1 (wp W) with
  | false =>
    refine ⟨fun x hz => (by rw [Bool.false_and] at hz; cases hz), fun _ => ⟨σ, ?_, Ag.rf, rfl, rfl⟩⟩
    rw [cond_false, if_pos rfl, t_Main_passenger_11]
  | true =>
    obtain ⟨p, b1, b2, rfl⟩ := ix_of hx
    obtain ⟨τ, j1, j2, j3, j4⟩ := K_now (d := d + 6) h
    rw [cond_true, if_neg (by decide), c_Main_passenger_25 j1, g_Main_passenger_28, Bool.true_and]
    have g1 : Ag kQc σ τ := j2.wk rfl
    have g2 : TDn σ τ := tdn j2 rfl
    rcases sw_n x2 4 (by decide) with hs | ⟨j, hj, rfl⟩
    · rw [sw_out (by decide) hs]
      refine ⟨fun x hz => (by cases hz), fun _ => ⟨τ, ?_, g1, g2⟩⟩
      rw [w_Main_passenger_29_d hs, t_Main_passenger_122]
    · rw [ixn (show j < 5 by omega) (by decide), cond_true, cln (n := p) (by omega), cln (n := j) (by omega)]
      refine ⟨fun x hz => ?_, fun hz => (by cases hz)⟩
      have hz : psV W f p j = x := Option.some.inj hz
      subst hz
      have ib : ax_ix (nI p) 9 = true := ixn (by omega) (by decide)
      obtain ⟨q1, q2, q3⟩ := j3.2.2.2.2.1.2.1 p b1
      match j, hj with
      | 0, _ =>
        show RnI (ev (d + 10) 224 29 [(0, .ref 0), (1, .int (nI p)), (2, .int 0)] [.int 0] (mkH τ)) _
        rw [w_Main_passenger_29_0, g_Main_passenger_64, ib, cond_true, cln (n := p) (by omega), show sA τ 18 p = wl W p from j3.2.2.1.2.2 p b1]
        exact RnI.mk ⟨g1, rfl, g2⟩
      | 1, _ =>
        show RnI (ev (d + 10) 224 29 [(0, .ref 0), (1, .int (nI p)), (2, .int 1)] [.int 1] (mkH τ)) _
        rw [w_Main_passenger_29_1, g_Main_passenger_74, ib, cond_true, cln (n := p) (by omega), show sA τ 19 p = f (16 + p) from q1]
        exact RnI.mk ⟨g1, rfl, g2⟩
      | 2, _ =>
        show RnI (ev (d + 10) 224 29 [(0, .ref 0), (1, .int (nI p)), (2, .int 2)] [.int 2] (mkH τ)) _
        rw [w_Main_passenger_29_2, g_Main_passenger_84, ib, cond_true, cln (n := p) (by omega), show sA τ 20 p = f (25 + p) from q2]
        rcases (h.2.1.2 p b1).2.1 with e | e
        · rw [if_pos e]; exact RnI.mk ⟨g1, e.symm, g2⟩
        · rw [if_neg (by rw [e]; decide)]; exact RnI.mk ⟨g1, e.symm, g2⟩
      | 3, _ =>
        show RnI (ev (d + 10) 224 29 [(0, .ref 0), (1, .int (nI p)), (2, .int 3)] [.int 3] (mkH τ)) _
        rw [w_Main_passenger_29_3, g_Main_passenger_102, ib, cond_true, cln (n := p) (by omega), show sA τ 21 p = f (34 + p) from q3]
        exact RnI.mk ⟨g1, rfl, g2⟩
      | 4, _ =>
        show RnI (ev (d + 10) 224 29 [(0, .ref 0), (1, .int (nI p)), (2, .int 4)] [.int 4] (mkH τ)) _
        rw [w_Main_passenger_29_4, g_Main_passenger_112, ib, cond_true, cln (n := p) (by omega), show sA τ 22 p = puF W f p from j4.2 p b1]
        exact RnI.mk ⟨g1, rfl, g2⟩
      | j + 5, hj => exact absurd hj (by omega)
theorem M_passenger (hd : 400 ≤ d) (h : MWo W f σ) : RnI (ev d 52 0 [(0, .ref 50), (1, .int x1), (2, .int x2)] [] (mkH σ)) (fun τ y => Ag kQm σ τ ∧ MDn σ τ ∧ (∀ x, psS x1 x2 W f = some x → y = x ∧ sI τ 3210 = 0) ∧ (psS x1 x2 W f = none → sI τ 3210 = 1)) := by
  obtain ⟨d, rfl⟩ : ∃ e, d = e + 10 := ⟨d - 10, by omega⟩
  have w9 := h.1.2.1
  have h1 : MWo W f (uI σ 3210 0) := h.nu rfl
  have a0 : Ag kQm σ (uI σ 3210 0) := Ag.I Ag.rf rfl
  rw [g_Model_passenger_0, c_Model_passenger_7 (N_isM h1.1 h1.2.2.1), g_Model_passenger_10]
  unfold psS
  have lost : RnI (ev (d + 10) 52 23 [(0, .ref 50), (1, .int x1), (2, .int x2)] [.ref 50] (mkH (uI σ 3210 0))) (fun τ y => Ag kQm σ τ ∧ MDn σ τ ∧ (∀ x, (none : Option Int32) = some x → y = x ∧ sI τ 3210 = 0) ∧ ((none : Option Int32) = none → sI τ 3210 = 1)) := by
    rw [c_Model_passenger_23 (g_Model_lost_0 (d := d + 8)), g_Model_passenger_26]
    exact RnI.mk ⟨a0.tr (Ag.I Ag.rf rfl), ⟨rfl, rfl⟩, fun x hz => (by cases hz), fun _ => I_S⟩
  cases hx : ax_ix x1 (wp W) with
  | false => rw [cond_false, if_pos rfl, Bool.false_and]; exact lost
  | true =>
    rw [cond_true, if_neg (by decide), c_Model_passenger_16 N_inF, g_Model_passenger_19, Bool.true_and]
    have ein : inF x2 0 4 = bif ax_ix x2 5 then 1 else 0 := in_ix (n := 5) (by decide)
    rw [ein]
    cases hy : ax_ix x2 5 with
    | false => rw [cond_false, if_pos rfl]; exact lost
    | true =>
      obtain ⟨p, b1, b2, rfl⟩ := ix_of hx
      obtain ⟨j, j1, j2, rfl⟩ := ix_of hy
      rw [cond_true, if_neg (by decide), cond_true, cln (n := p) (by omega), cln (n := j) (by omega)]
      have fin : ∀ {τ : Sg}, Ag kP (uI σ 3210 0) τ → RnI (rI τ (psV W f p j)) (fun τ y => Ag kQm σ τ ∧ MDn σ τ ∧ (∀ x, some (psV W f p j) = some x → y = x ∧ sI τ 3210 = 0) ∧ (some (psV W f p j) = none → sI τ 3210 = 1)) := fun {τ} a => RnI.mk ⟨a0.tr (a.wk rfl), (show MDn σ τ from ⟨(a.1 3209 rfl).trans rfl, (a.2.2.1 55 rfl).trans rfl⟩), fun x hz => ⟨Option.some.inj hz, (a.1 3210 rfl).trans I_S⟩, fun hz => (by cases hz)⟩
      obtain ⟨l1, l2, l3⟩ := h1.2.2.2.1.2.1 p b1
      match j, j1 with
      | 0, _ =>
        show RnI (ev (d + 10) 52 28 [(0, .ref 50), (1, .int (nI p)), (2, .int 0)] [.int 0] (mkH (uI σ 3210 0))) _
        rw [w_Model_passenger_28_0, g_Model_passenger_60, ixn (k := p) (by omega) (by decide), cond_true, cln (n := p) (by omega), h1.2.2.1.2.2.2.2 p b1]
        exact fin Ag.rf
      | 1, _ =>
        show RnI (ev (d + 10) 52 28 [(0, .ref 50), (1, .int (nI p)), (2, .int 1)] [.int 1] (mkH (uI σ 3210 0))) _
        rw [w_Model_passenger_28_1, g_Model_passenger_67, add16, ixn (k := 16 + p) (by omega) (by decide), cond_true, cln (n := 16 + p) (by omega), l1]
        exact fin Ag.rf
      | 2, _ =>
        show RnI (ev (d + 10) 52 28 [(0, .ref 50), (1, .int (nI p)), (2, .int 2)] [.int 2] (mkH (uI σ 3210 0))) _
        rw [w_Model_passenger_28_2, g_Model_passenger_77, add25, ixn (k := 25 + p) (by omega) (by decide), cond_true, cln (n := 25 + p) (by omega), l2]
        exact fin Ag.rf
      | 3, _ =>
        show RnI (ev (d + 10) 52 28 [(0, .ref 50), (1, .int (nI p)), (2, .int 3)] [.int 3] (mkH (uI σ 3210 0))) _
        rw [w_Model_passenger_28_3, g_Model_passenger_87, add34, ixn (k := 34 + p) (by omega) (by decide), cond_true, cln (n := 34 + p) (by omega), l3]
        exact fin Ag.rf
      | 4, _ =>
        obtain ⟨τ, y, k1, k2, k3⟩ := N_puff (d := d + 8) (v := false) (by omega) h1.1 h1.2.2.1 h1.2.1 h1.2.2.2.1 h1.2.2.2.2 b1
        show RnI (ev (d + 10) 52 28 [(0, .ref 50), (1, .int (nI p)), (2, .int 4)] [.int 4] (mkH (uI σ 3210 0))) _
        rw [w_Model_passenger_28_d (Or.inr (by decide)), g_Model_passenger_97, c_Model_passenger_103 k1, g_Model_passenger_106, k3]
        exact fin k2
      | j + 5, hj => exact absurd hj (by omega)
theorem op_barge : Op_barge 400 INV := fun d hd k σ a1 a2 _ h => t_op (bgS a1 a2) (fun d σ W f hd h => C_barge hd h) (fun d σ W f hd h => M_barge hd h) hd h
theorem op_passenger : Op_passenger 400 INV := fun d hd k σ a1 a2 _ h => t_op (psS a1 a2) (fun d σ W f hd h => C_passenger hd h) (fun d σ W f hd h => M_passenger hd h) hd h
theorem op_forget : Op_forget 400 INV := by
  intro d hd k σ _ h
  obtain ⟨d, rfl⟩ : ∃ e, d = e + 10 := ⟨d - 10, by omega⟩
  obtain ⟨W, f, ⟨c, m, b3, b2⟩, tx, to, ⟨gm, g1, g2, g3, g4⟩, pa, ke⟩ := h
  refine ⟨uI σ 2562 0, uI (uI (uI σ 2562 0) 3210 0) 3236 0, nI gm, ?_, ?_, rfl, rfl, rfl, ?_⟩
  · rw [g_Main_forget_0, g2]
  · rw [g_Model_forget_0, show sI (uI σ 2562 0) 3236 = nI gm from g3]
  · have a : Ag [2562, 3210, 3236] σ (uI (uI (uI σ 2562 0) 3210 0) 3236 0) := Ag.I (Ag.I (Ag.I Ag.rf rfl) rfl) rfl
    exact ⟨W, f, ⟨c.ag a rfl, m.ag a rfl, b3, b2⟩, tx.ag a rfl, to.ag a rfl rfl, ⟨0, by omega, rfl, rfl, fun i hi => absurd hi (Nat.not_lt_zero i)⟩, pa.ag a rfl, (ke.ag a rfl).mono⟩
end A1
