/-! keep, again, sheet -/
section P4
variable {d m x k : Nat} {σ τ : Sg} {W : Wd} {f g : Nat → Int32} {gs : Nat → Nat → Int32} {K : List Nat}
theorem nI_ne {a b : Nat} (ha : a < 2147483648) (hb : b < 2147483648) (h : a ≠ b) : ¬ nI a = nI b := fun e => by
  have := congrArg Int32.toInt e
  rw [nI_toInt ha, nI_toInt hb] at this
  omega
theorem op_keep : Op_keep 400 INV := by
  intro d hd k σ x _ h
  obtain ⟨d, rfl⟩ : ∃ e, d = e + 10 := ⟨d - 10, by omega⟩
  have h0 := h
  obtain ⟨W, f, ⟨c, m, b3, b2⟩, tx, to, go, pa, ke⟩ := h
  have ein : inF x 0 1 = bif ax_ix x 2 then 1 else 0 := in_ix (n := 2) (by decide)
  cases hx : ax_ix x 2 with
  | false =>
    have a0 : Ag [3210] σ (uI σ 3210 0) := Ag.I Ag.rf rfl
    refine ⟨σ, uI σ 3210 0, 0, ?_, ?_, rfl, rfl, rfl, h0.keep a0 (to.ag a0 rfl rfl) (by decide) (by decide) (by decide) (by decide) (by decide) (by decide) (by decide)⟩
    · have e1 : ev (d + 9) 185 0 [(0, .ref 37), (1, .int x), (2, .ref 5)] [] (mkH σ) = rI σ 0 := by
        rw [g_Past_hold_0]
        split
        · rfl
        · split
          · rename_i q1 q2
            obtain ⟨j, hj, rfl⟩ := nI_of q1
            have : ¬ j < 2 := fun z => by rw [ixn z (by omega)] at hx; cases hx
            exact absurd q2 (nI_nlt (a := j) (b := 2) (by omega) (by omega))
          · rfl
      rw [g_Main_keep_0, c_Main_keep_9 e1, g_Main_keep_12, if_pos (Or.inl rfl)]
    · rw [g_Model_keep_0, c_Model_keep_8 N_inF, g_Model_keep_11, ein, hx, cond_false, if_pos rfl]
  | true =>
    obtain ⟨i, i1, i2, rfl⟩ := ix_of hx
    obtain ⟨τ, k1, k2, k3, k4⟩ := K_save (d := d + 7) (o := 44 * (13 + i)) c (by omega)
    have e1 : ev (d + 9) 185 0 [(0, .ref 37), (1, .int (nI i)), (2, .ref 5)] [] (mkH σ) = rI (uA τ 39 i 1) 1 := by
      rw [g_Past_hold_0, if_neg (nI_pos (by omega)), if_pos (show nI i < (2 : Int32) from nI_lt (a := i) (b := 2) i1 (by decide)), show (13 : Int32) + nI i = nI (13 + i) from nI_add 13 i, mul44, c_Past_hold_23 k1, g_Past_hold_26, hx, cond_true, cln (n := i) (by omega), nar1]
    obtain ⟨w, c1, c2, c3⟩ := ke
    have aσ1 : Ag [10038, 10039] σ (uA τ 39 i 1) := (k2.wk rfl).tr (Ag.A Ag.rf rfl)
    generalize hs1 : uA τ 39 i 1 = σ1 at e1 aσ1
    have a2 : Ag [3210, 10072, 10073] σ1 (uA (uA (uI σ1 3210 0) 72 i 1) 73 i (nI w)) := Ag.A (Ag.A (Ag.I Ag.rf rfl) rfl) rfl
    obtain ⟨σ2, m1, m2, m3, m4⟩ := N_lay_nk (d := d + 8) (σ := uA (uA (uI σ1 3210 0) 72 i 1) 73 i (nI w)) (o := 44 * i) (by omega)
    have aσ2 : Ag [3210, 10072, 10073, 10071] σ1 σ2 := (a2.wk rfl).tr (m2.wk rfl)
    have aa : Ag ([10038, 10039] ++ [3210, 10072, 10073, 10071]) σ σ2 := (aσ1.wk rfl).tr (aσ2.wk rfl)
    have e39 : sI σ1 3239 = nI w := (aσ1.1 3239 rfl).trans c2
    refine ⟨σ1, σ2, 1, ?_, ?_, aσ1.2.2.2.2.2.2, aa.2.2.2.2.2.2, aa.2.2.2.2.2.1, ?_⟩
    · rw [g_Main_keep_0, c_Main_keep_9 e1, g_Main_keep_12, if_pos (Or.inr rfl)]
    · rw [g_Model_keep_0, c_Model_keep_8 N_inF, g_Model_keep_11, ein, hx, cond_true, if_neg (by decide), cond_true, cond_true, cln (n := i) (by omega), nar1, mul44', show sI (uI σ1 3210 0) 3239 = nI w from e39, c_Model_keep_45 m1, g_Model_keep_48]
    · have m38 : sA σ2 38 = sA τ 38 := (aσ2.2.1 38 rfl).trans (by rw [← hs1]; rfl)
      have m39 : sA σ2 39 = upd (sA σ 39) i 1 := (aσ2.2.1 39 rfl).trans (by rw [← hs1]; show upd (sA τ 39) i 1 = _; rw [k2.2.1 39 rfl])
      have m72 : sA σ2 72 = upd (sA σ 72) i 1 := (m2.2.1 72 rfl).trans (by show upd (sA σ1 72) i 1 = _; rw [aσ1.2.1 72 rfl])
      have m73 : sA σ2 73 = upd (sA σ 73) i (nI w) := (m2.2.1 73 rfl).trans (by show upd (sA σ1 73) i (nI w) = _; rw [aσ1.2.1 73 rfl])
      have m71 : ∀ j, j < 44 * i ∨ 44 * i + 44 ≤ j → sA σ2 71 j = sA σ 71 j := fun j hj => (m4 j hj).trans (by show sA σ1 71 j = _; rw [aσ1.2.1 71 rfl])
      have m71' : ∀ j, j < 44 → sA σ2 71 (44 * i + j) = sA σ 51 j := fun j hj => (m3 j hj).trans (by show sA σ1 51 j = _; rw [aσ1.2.1 51 rfl])
      refine h0.of (c.ag aa rfl) (m.ag aa rfl) (aa.2.2.2.1 3 rfl) (aa.2.2.2.1 2 rfl) (aa.2.2.2.1 0 rfl) (tx.ag aa rfl) (to.ag aa rfl rfl) (go.ag aa rfl) ?_ ⟨w, by omega, (aa.1 3239 rfl).trans c2, fun j hj => ?_⟩
      · obtain ⟨x, n, gs, ⟨p1, p2, p3, p4, p5⟩, q⟩ := pa.get
        refine PaC.to (x := x) (m := n) (gs := gs) ⟨p1, p2, (aa.1 2370 rfl).trans p3, (aa.1 2371 rfl).trans p4, fun j hj => ⟨(p5 j hj).1, ?_⟩⟩ (q.ag aa rfl)
        rw [m38]
        exact Lv.of44 c.1 (fun q hq => cS_congr (fun y y1 y2 => k4 y (by omega)) hq) (p5 j hj).2
      · rw [m38, m39, m72, m73]
        by_cases e : j = i
        · subst e
          rw [upS, upS, upS]
          refine ⟨Or.inr rfl, fun _ => ⟨w, Nat.le_refl _, rfl⟩, Or.inr ⟨rfl, rfl, rfl, f, c.2.1, k3, ?_⟩⟩
          exact Lv.of44 c.1 m71' m.2.2.2.1
        · rw [upN e, upN e, upN e]
          obtain ⟨d1, d2, d3⟩ := c3 j hj
          refine ⟨d1, d2, ?_⟩
          rcases d3 with d3 | ⟨d4, d5, d6, g, d7, d8, d9⟩
          · exact Or.inl d3
          · exact Or.inr ⟨d4, d5, d6, g, d7, Lv.of44 c.1 (fun q hq => cS_congr (fun y y1 y2 => k4 y (by omega)) hq) d8, Lv.of44 c.1 (fun q hq => m71 _ (by omega)) d9⟩
theorem N_againL {i : Nat} (hi : i < 2) : RnI (ev (d + 1) 120 40 [(0, .ref 50), (1, .int (nI i)), (2, .int 0)] [] (mkH σ)) (fun τ y => Ag [10051, 3223] σ τ ∧ y = 1 ∧ sI τ 3223 = 0 ∧ ∀ j, j < 44 → sA τ 51 j = sA σ 71 (44 * i + j)) := by
  refine lpG (α := Sg) (n := 44) (P := fun k ρ => Ag [10051] σ ρ ∧ ∀ j, j < k → sA ρ 51 j = sA σ 71 (44 * i + j))
    (f := fun k ρ => ev (d + 1) 120 40 [(0, .ref 50), (1, .int (nI i)), (2, .int (nI k))] [] (mkH ρ)) (Q := fun o => RnI o _) ?_ ?_ 44 0 σ (by omega) ⟨Ag.rf, fun i hi => absurd hi (Nat.not_lt_zero i)⟩
  · rintro j ρ hj ⟨p1, p2⟩ nx
    show RnI (ev (d + 1) 120 40 [(0, .ref 50), (1, .int (nI i)), (2, .int (nI j))] [] (mkH ρ)) _
    rw [g_Model_again_40, if_neg (show ¬ (44 : Int32) ≤ nI j from nI_ge (a := j) (b := 44) hj (by decide)), mul44', nI_add, ixn (k := 44 * i + j) (by omega) (by decide), cond_true, ixn (k := j) hj (by decide), cond_true, cln (n := j) (by omega), cln (n := 44 * i + j) (by omega), nI_1, p1.2.1 71 rfl]
    refine nx _ ⟨Ag.A p1 rfl, fun q hq => ?_⟩
    show upd (sA ρ 51) j _ q = _
    by_cases e : q = j
    · subst e; rw [upS]
    · rw [upN e]; exact p2 q (by omega)
  · rintro ρ ⟨p1, p2⟩
    show RnI (ev (d + 1) 120 40 [(0, .ref 50), (1, .int (nI i)), (2, .int (nI 44))] [] (mkH ρ)) _
    rw [g_Model_again_40, if_pos (by decide)]
    exact RnI.mk ⟨(p1.wk rfl).tr (Ag.I Ag.rf rfl), rfl, rfl, p2⟩
theorem op_again : Op_again 400 INV := by
  intro d hd k σ x _ h
  obtain ⟨d, rfl⟩ : ∃ e, d = e + 10 := ⟨d - 10, by omega⟩
  have h0 := h
  obtain ⟨W, f, ⟨c, m, b3, b2⟩, tx, to, go, pa, ke⟩ := h
  have ein : inF x 0 1 = bif ax_ix x 2 then 1 else 0 := in_ix (n := 2) (by decide)
  have a0 : Ag [3210] σ (uI σ 3210 0) := Ag.I Ag.rf rfl
  have no : ev (d + 9) 186 0 [(0, .ref 37), (1, .int x), (2, .ref 5)] [] (mkH σ) = rI σ 0 → ev (d + 10) 120 0 [(0, .ref 50), (1, .int x)] [] (mkH σ) = rI (uI σ 3210 0) 0 → OpR (INV (k + 1)) (d + 10) 269 120 [(0, .ref 0), (1, .int x)] [(0, .ref 50), (1, .int x)] σ := fun e1 e2 =>
    ⟨σ, uI σ 3210 0, 0, by rw [g_Main_again_0, c_Main_again_9 e1, g_Main_again_12, if_pos (Or.inl rfl)], e2, rfl, rfl, rfl, h0.keep a0 (to.ag a0 rfl rfl) (by decide) (by decide) (by decide) (by decide) (by decide) (by decide) (by decide)⟩
  cases hx : ax_ix x 2 with
  | false =>
    refine no ?_ ?_
    · rw [g_Past_restore_0]
      split
      · rfl
      · split
        · rfl
        · rename_i q1 q2
          obtain ⟨j, hj, rfl⟩ := nI_of q1
          have : ¬ j < 2 := fun z => by rw [ixn z (by omega)] at hx; cases hx
          exact absurd (show (2 : Int32) ≤ nI j from nI_le (a := 2) (b := j) (by omega) (by omega)) q2
    · rw [g_Model_again_0, c_Model_again_8 N_inF, g_Model_again_11, ein, hx, cond_false, if_pos rfl]
  | true =>
    obtain ⟨i, i1, i2, rfl⟩ := ix_of hx
    obtain ⟨w, c1, c2, c3⟩ := ke
    obtain ⟨d1, d2, d3⟩ := c3 i i1
    have q1 : ¬ (2 : Int32) ≤ nI i := nI_ge (a := i) (b := 2) i1 (by decide)
    rcases d3 with ⟨d3, d4⟩ | ⟨d4, d5, d6, g, d7, d8, d9⟩
    · refine no ?_ ?_
      · rw [g_Past_restore_0, if_neg (nI_pos (by omega)), if_neg q1, hx, cond_true, cln (n := i) (by omega), d3, if_pos rfl]
      · rw [g_Model_again_0, c_Model_again_8 N_inF, g_Model_again_11, ein, hx, cond_true, if_neg (by decide), cond_true, cond_true, cln (n := i) (by omega), show sI (uI σ 3210 0) 3239 = nI w from c2]
        show (if sA σ 72 i = 0 then rI (uI σ 3210 0) 0 else if sA σ 73 i = nI w then _ else rI (uI σ 3210 0) 0) = rI (uI σ 3210 0) 0
        rcases d1 with z | z
        · rw [if_pos z]
        · rw [if_neg (by rw [z]; decide), if_neg (fun e => d4 ⟨z, e⟩)]
    · obtain ⟨τ, k1, k2, k3⟩ := K_bring (d := d + 7) (o := 44 * (13 + i)) c d7 d8 (by omega)
      have e1 : ev (d + 9) 186 0 [(0, .ref 37), (1, .int (nI i)), (2, .ref 5)] [] (mkH σ) = rI (uI τ 2371 0) 1 := by
        rw [g_Past_restore_0, if_neg (nI_pos (by omega)), if_neg q1, hx, cond_true, cln (n := i) (by omega), d4, if_neg (by decide), show (13 : Int32) + nI i = nI (13 + i) from nI_add 13 i, mul44, c_Past_restore_32 k1, g_Past_restore_35]
      have aσ1 : Ag (2371 :: kBr) σ (uI τ 2371 0) := (k2.wk rfl).tr (Ag.I Ag.rf rfl)
      have a71 : Ag [2371] τ (uI τ 2371 0) := Ag.I Ag.rf rfl
      have k3' := k3.ag a71 rfl
      have s71 : sI (uI τ 2371 0) 2371 = 0 := I_S
      generalize uI τ 2371 0 = σ1 at e1 aσ1 k3' s71
      obtain ⟨σ2, y, m1, m2, rfl, m4, m5⟩ := N_againL (d := d + 9) (σ := uI σ1 3210 0) i1
      have aσ2 : Ag [3210, 10051, 3223] σ1 σ2 := (Ag.I Ag.rf rfl).tr (m2.wk rfl)
      have aa : Ag (2371 :: kBr ++ [3210, 10051, 3223]) σ σ2 := (aσ1.wk rfl).tr (aσ2.wk rfl)
      refine ⟨σ1, σ2, 1, ?_, ?_, aσ1.2.2.2.2.2.2, aa.2.2.2.2.2.2, aa.2.2.2.2.2.1, ?_⟩
      · rw [g_Main_again_0, c_Main_again_9 e1, g_Main_again_12, if_pos (Or.inr rfl)]
      · rw [g_Model_again_0, c_Model_again_8 N_inF, g_Model_again_11, ein, hx, cond_true, if_neg (by decide), cond_true, cond_true, cln (n := i) (by omega), show sI (uI σ1 3210 0) 3239 = nI w from (aσ1.1 3239 rfl).trans c2, show sA (uI σ1 3210 0) 72 i = 1 from (congrFun (aσ1.2.1 72 rfl) i).trans d5, show sA (uI σ1 3210 0) 73 i = nI w from (congrFun (aσ1.2.1 73 rfl) i).trans d6, if_neg (by decide), if_pos rfl, m1]
      · refine h0.of (k3'.ag aσ2 rfl) ⟨c.1, d7, (m.ag aσ1 rfl).2.2.1.ag aσ2 rfl, ?_, (m.ag aσ1 rfl).2.2.2.2.ag aσ2 rfl⟩ (aa.2.2.2.1 3 rfl) (aa.2.2.2.1 2 rfl) (aa.2.2.2.1 0 rfl) (tx.ag aa rfl) (to.ag aa rfl rfl) (go.ag aa rfl) ?_ (Ke.ag ⟨w, c1, c2, c3⟩ aa rfl).mono
        · refine Lv.of44 c.1 (fun j hj => ?_) d9
          rw [m5 j hj]
          show sA σ1 71 (44 * i + j) = _
          rw [aσ1.2.1 71 rfl]
        · obtain ⟨x, n, p1, p2, p3, _⟩ := pa
          exact ⟨x, 0, p1, by omega, (aa.1 2370 rfl).trans p3, (aσ2.1 2371 rfl).trans s71, m4, fun j hj => absurd hj (Nat.not_lt_zero j)⟩
/-! sheet -/
def nrF (x1 v : Int32) : Int32 := if x1 = 0 then (Int32.toInt8 v).toInt32 else if x1 = 1 then (Int32.toInt16 v).toInt32 else v
def seV (W : Wd) (x1 x2 v : Int32) (p : Nat) : Int32 := if x1 = 3 then 0 else if nI p < x2 then (if 0 < (if nrF x1 v < wl W p then nrF x1 v else wl W p) then (if nrF x1 v < wl W p then nrF x1 v else wl W p) else 0) else 0
def seF (W : Wd) (f : Nat → Int32) (x1 x2 x3 x4 : Int32) : Nat → (Nat → Int32) × Int32
  | 0 => (f, x3)
  | p + 1 => (upd (seF W f x1 x2 x3 x4 p).1 (34 + p) (seV W x1 x2 (seF W f x1 x2 x3 x4 p).2 p), (seF W f x1 x2 x3 x4 p).2 + x4)
theorem mx9 {v l : Int32} (hl : n9 l) : n9 (if 0 < (if v < l then v else l) then (if v < l then v else l) else 0) := by
  obtain ⟨j, j1, rfl⟩ := hl
  by_cases h2 : v < nI j
  · rw [if_pos h2]
    by_cases h : 0 < v
    · rw [if_pos h]
      have n1 : ¬ v < 0 := fun z => Int32.lt_irrefl (Int32.lt_trans h z)
      obtain ⟨q, hq, rfl⟩ := nI_of n1
      refine ⟨q, ?_, rfl⟩
      rw [Int32.lt_iff_toInt_lt, nI_toInt hq, nI_toInt (by omega)] at h2
      omega
    · rw [if_neg h]; exact ⟨0, by omega, rfl⟩
  · rw [if_neg h2]
    by_cases h : 0 < nI j
    · rw [if_pos h]; exact ⟨j, j1, rfl⟩
    · rw [if_neg h]; exact ⟨0, by omega, rfl⟩
theorem seV_9 {x1 x2 v : Int32} {p : Nat} (hl : n9 (wl W p)) : n9 (seV W x1 x2 v p) := by
  unfold seV
  split
  · exact ⟨0, by omega, rfl⟩
  · split
    · exact mx9 hl
    · exact ⟨0, by omega, rfl⟩
theorem seF_ok (hW : WO W) (hl : ∀ p, p < wp W → n9 (wl W p)) (ho : OK W f) {x1 x2 x3 x4 : Int32} : ∀ p, p ≤ wp W → OK W (seF W f x1 x2 x3 x4 p).1
  | 0, _ => ho
  | p + 1, hp => by
    have w9 := hW.2.1
    exact (seF_ok hW hl ho p (by omega)).air hW (by omega) (seV_9 (hl p (by omega)))
def shS (x1 x2 x3 x4 : Int32) (W : Wd) (f : Nat → Int32) : Int32 × (Nat → Int32) × Bool × Option (List Int64) :=
  if inF x1 0 3 = 0 then (-1, f, false, none) else if x2 ≤ 9 then (if x1 = 3 ∨ 0 ≤ x2 then ((if x1 = 3 then (Int8.ofInt (-3)).toInt32 else brF W (seF W f x1 x2 x3 x4 (wp W)).1), (seF W f x1 x2 x3 x4 (wp W)).1, false, none) else ((Int8.ofInt (-2)).toInt32, f, false, none)) else (-1, f, false, none)
theorem K_nar {x1 v : Int32} : ev (d + 1) 226 0 [(0, .int x1), (1, .int v)] [] (mkH σ) = rI σ (nrF x1 v) := by
  rw [g_Main_narrowed_0]
  unfold nrF
  split
  · rfl
  · split <;> rfl
theorem C_shL (h : CWo W f σ) {x1 x2 x3 x4 lim : Int32} (hlim : ∀ p, p < wp W → (lim ≤ nI p ↔ x1 = 3 ∨ ¬ nI p < x2)) : RnI (ev (d + 3) 225 47 [(0, .ref 0), (1, .int x1), (2, .int x2), (3, .int x3), (4, .int x4), (5, .int lim), (6, .int x3), (7, .int 0)] [] (mkH σ)) (fun τ y => Ag [10021] σ τ ∧ y = (if x1 = 3 then (Int8.ofInt (-3)).toInt32 else brF W (seF W f x1 x2 x3 x4 (wp W)).1) ∧ FR W false τ (seF W f x1 x2 x3 x4 (wp W)).1) := by
  have w9 := h.1.2.1
  refine lpG (α := Sg) (n := wp W) (P := fun p ρ => Ag [10021] σ ρ ∧ FR W false ρ (seF W f x1 x2 x3 x4 p).1)
    (f := fun p ρ => ev (d + 3) 225 47 [(0, .ref 0), (1, .int x1), (2, .int x2), (3, .int x3), (4, .int x4), (5, .int lim), (6, .int (seF W f x1 x2 x3 x4 p).2), (7, .int (nI p))] [] (mkH ρ)) (Q := fun o => RnI o _) ?_ ?_ (wp W) 0 σ (by omega) ⟨Ag.rf, h.2.2.2.2.1⟩
  · rintro p ρ hp ⟨p1, p2⟩ nx
    show RnI (ev (d + 3) 225 47 [(0, .ref 0), (1, .int x1), (2, .int x2), (3, .int x3), (4, .int x4), (5, .int lim), (6, .int (seF W f x1 x2 x3 x4 p).2), (7, .int (nI p))] [] (mkH ρ)) _
    have hc := h.2.2.1.ag p1 rfl
    rw [g_Main_sheet_47, show sI ρ 334 = nI (wp W) from hc.2.1, if_neg (nI_ge hp (by omega)), ixn (k := p) (by omega) (by decide), cond_true, cond_true, cln (n := p) (by omega), show sA ρ 18 p = wl W p from hc.2.2 p hp]
    have nxt : RnI (ev (d + 3) 225 47 [(0, .ref 0), (1, .int x1), (2, .int x2), (3, .int x3), (4, .int x4), (5, .int lim), (6, .int ((seF W f x1 x2 x3 x4 p).2 + x4)), (7, .int (nI (p + 1)))] [] (mkH (uA ρ 21 p (seV W x1 x2 (seF W f x1 x2 x3 x4 p).2 p)))) _ := nx (uA ρ 21 p (seV W x1 x2 (seF W f x1 x2 x3 x4 p).2 p)) ⟨Ag.A p1 rfl, FR.air (w := false) h.1 p2 (by omega)⟩
    unfold seV at nxt
    by_cases hq : lim ≤ nI p
    · rw [if_pos hq, nI_1]
      rcases (hlim p hp).mp hq with e | e
      · rw [if_pos e] at nxt; exact nxt
      · rw [if_neg e, ite_self] at nxt; exact nxt
    · have hq2 : ¬ x1 = 3 ∧ nI p < x2 := by
        have := mt (hlim p hp).mpr hq
        exact ⟨fun z => this (Or.inl z), Decidable.byContradiction (fun z => this (Or.inr z))⟩
      rw [if_neg hq2.1, if_pos hq2.2] at nxt
      rw [if_neg hq, c_Main_sheet_89 K_nar, g_Main_sheet_92, ixn (k := p) (by omega) (by decide), cond_true, cln (n := p) (by omega), nI_1]
      exact nxt
  · rintro ρ ⟨p1, p2⟩
    show RnI (ev (d + 3) 225 47 [(0, .ref 0), (1, .int x1), (2, .int x2), (3, .int x3), (4, .int x4), (5, .int lim), (6, .int (seF W f x1 x2 x3 x4 (wp W)).2), (7, .int (nI (wp W)))] [] (mkH ρ)) _
    have hc := h.2.2.1.ag p1 rfl
    rw [g_Main_sheet_47, show sI ρ 334 = nI (wp W) from hc.2.1, if_pos (nI_le (Nat.le_refl _) (by omega))]
    by_cases e : x1 = 3
    · rw [if_pos e]; exact RnI.mk ⟨p1, (if_pos e).symm, p2⟩
    · rw [if_neg e, c_Main_sheet_130 (F_brF (w := false) h.1 p2 hc), g_Main_sheet_133]
      exact RnI.mk ⟨p1, (if_neg e).symm, p2⟩
theorem M_shL (h : MWo W f σ) {x1 x2 x3 x4 : Int32} : RnI (ev (d + 3) 54 40 [(0, .ref 50), (1, .int x1), (2, .int x2), (3, .int x3), (4, .int x4), (5, .int x3), (6, .int 0)] [] (mkH σ)) (fun τ y => Ag [10051] σ τ ∧ y = (if x1 = 3 then (Int8.ofInt (-3)).toInt32 else brF W (seF W f x1 x2 x3 x4 (wp W)).1) ∧ Lv W (sA τ 51) (seF W f x1 x2 x3 x4 (wp W)).1) := by
  have w9 := h.1.2.1
  refine lpG (α := Sg) (n := wp W) (P := fun p ρ => Ag [10051] σ ρ ∧ Lv W (sA ρ 51) (seF W f x1 x2 x3 x4 p).1)
    (f := fun p ρ => ev (d + 3) 54 40 [(0, .ref 50), (1, .int x1), (2, .int x2), (3, .int x3), (4, .int x4), (5, .int (seF W f x1 x2 x3 x4 p).2), (6, .int (nI p))] [] (mkH ρ)) (Q := fun o => RnI o _) ?_ ?_ (wp W) 0 σ (by omega) ⟨Ag.rf, h.2.2.2.1⟩
  · rintro p ρ hp ⟨p1, p2⟩ nx
    show RnI (ev (d + 3) 54 40 [(0, .ref 50), (1, .int x1), (2, .int x2), (3, .int x3), (4, .int x4), (5, .int (seF W f x1 x2 x3 x4 p).2), (6, .int (nI p))] [] (mkH ρ)) _
    have hc := h.2.2.1.ag p1 rfl
    rw [g_Model_sheet_40, show sI ρ 3203 = nI (wp W) from hc.2.1, if_neg (nI_ge hp (by omega)), add34, ixn (k := p) (n := 9) (by omega) (by decide), ixn (k := 34 + p) (n := 44) (by omega) (by decide), cln (n := p) (by omega), cln (n := 34 + p) (by omega), show sA ρ 53 p = wl W p from hc.2.2.2.2 p hp, nI_1]
    have nxt : RnI (ev (d + 3) 54 40 [(0, .ref 50), (1, .int x1), (2, .int x2), (3, .int x3), (4, .int x4), (5, .int ((seF W f x1 x2 x3 x4 p).2 + x4)), (6, .int (nI (p + 1)))] [] (mkH (uA ρ 51 (34 + p) (seV W x1 x2 (seF W f x1 x2 x3 x4 p).2 p)))) _ := nx (uA ρ 51 (34 + p) (seV W x1 x2 (seF W f x1 x2 x3 x4 p).2 p)) ⟨Ag.A p1 rfl, Lv.up p2⟩
    unfold seV nrF at nxt
    generalize (if x1 = 3 then (Int8.ofInt (-3)).toInt32 else brF W (seF W f x1 x2 x3 x4 (wp W)).1) = Y at nxt ⊢
    simp only [cond_true]
    by_cases e3 : x1 = 3
    · rw [if_pos e3] at nxt
      rw [if_neg (show ¬ x1 = 0 by rw [e3]; decide), if_neg (show ¬ x1 = 1 by rw [e3]; decide), if_pos e3]
      exact nxt
    · rw [if_neg e3] at nxt
      simp only [if_neg e3]
      by_cases hq : nI p < x2
      · rw [if_pos hq] at nxt
        simp only [if_pos hq]
        by_cases e0 : x1 = 0
        · simp only [if_pos e0] at nxt ⊢; exact nxt
        · simp only [if_neg e0] at nxt ⊢
          by_cases e1 : x1 = 1
          · simp only [if_pos e1] at nxt ⊢; exact nxt
          · simp only [if_neg e1] at nxt ⊢; exact nxt
      · rw [if_neg hq] at nxt
        simp only [if_neg hq, ite_self]
        exact nxt
  · rintro ρ ⟨p1, p2⟩
    show RnI (ev (d + 3) 54 40 [(0, .ref 50), (1, .int x1), (2, .int x2), (3, .int x3), (4, .int x4), (5, .int (seF W f x1 x2 x3 x4 (wp W)).2), (6, .int (nI (wp W)))] [] (mkH ρ)) _
    have hc := h.2.2.1.ag p1 rfl
    rw [g_Model_sheet_40, show sI ρ 3203 = nI (wp W) from hc.2.1, if_pos (nI_le (Nat.le_refl _) (by omega))]
    by_cases e : x1 = 3
    · rw [if_pos e]; exact RnI.mk ⟨p1, (if_pos e).symm, p2⟩
    · rw [if_neg e, c_Model_sheet_143 (N_breath (v := false) h.1 hc p2), g_Model_sheet_146]
      exact RnI.mk ⟨p1, (if_neg e).symm, p2⟩
theorem op_sheet : Op_sheet 400 INV := by
  intro d hd k σ x1 x2 x3 x4 _ h
  refine act_op (shS x1 x2 x3 x4) (fun W f => by unfold shS; (repeat' split) <;> exact trivial) ?_ ?_ hd h
  · intro d σ W f u m gs hd h hp
    obtain ⟨d, rfl⟩ : ∃ e, d = e + 10 := ⟨d - 10, by omega⟩
    rw [g_Main_sheet_0, c_Main_sheet_3 K_in, g_Main_sheet_6]
    unfold shS
    have nop : ∀ r : Int32, RnI (rI σ r) (fun τ y => Ag kAc σ τ ∧ y = r ∧ CWo W f τ ∧ (∀ i, 572 ≤ i → sA τ 38 i = sA σ 38 i) ∧ (∃ x', PaC W x' m gs τ) ∧ TDx σ τ none) := fun r => RnI.mk ⟨Ag.rf, rfl, h, fun i hi => rfl, ⟨u, hp⟩, ⟨rfl, rfl⟩⟩
    have yes : ∀ lim : Int32, (∀ p, p < wp W → (lim ≤ nI p ↔ x1 = 3 ∨ ¬ nI p < x2)) → RnI (ev (d + 10) 225 47 [(0, .ref 0), (1, .int x1), (2, .int x2), (3, .int x3), (4, .int x4), (5, .int lim), (6, .int x3), (7, .int 0)] [] (mkH σ)) (fun τ y => Ag kAc σ τ ∧ y = (if x1 = 3 then (Int8.ofInt (-3)).toInt32 else brF W (seF W f x1 x2 x3 x4 (wp W)).1) ∧ CWo W (seF W f x1 x2 x3 x4 (wp W)).1 τ ∧ (∀ i, 572 ≤ i → sA τ 38 i = sA σ 38 i) ∧ (∃ x', PaC W x' m gs τ) ∧ TDx σ τ none) := fun lim hlim =>
      (C_shL (d := d + 7) h hlim).im (fun τ y ⟨e1, e2, e3⟩ => ⟨e1.wk rfl, e2, h.fr (e1.wk rfl) (seF_ok h.1 h.1.2.2.2.2.2 h.2.1 _ (Nat.le_refl _)) e3, fun i hi => by rw [e1.2.1 38 rfl], ⟨u, hp.ag e1 rfl⟩, tdn e1 rfl⟩)
    by_cases hin : inF x1 0 3 = 0
    · rw [if_pos hin, if_pos hin]; exact nop _
    · rw [if_neg hin, if_neg hin]
      by_cases h9 : x2 ≤ 9
      · rw [if_pos h9, if_pos h9]
        by_cases e3 : x1 = 3
        · rw [if_pos e3, if_pos e3, if_pos (Or.inl e3)]
          exact yes 0 (fun p hp => ⟨fun _ => Or.inl e3, fun _ => show nI 0 ≤ nI p from nI_le (Nat.zero_le p) (by have := h.1.2.1; omega)⟩)
        · rw [if_neg e3, if_neg e3]
          by_cases h0 : 0 ≤ x2
          · rw [if_pos h0, if_pos (Or.inr h0)]
            exact yes x2 (fun p hp => ⟨fun z => Or.inr (Int32.not_lt.mpr z), fun z => z.elim (fun z => absurd z e3) (fun z => Int32.not_lt.mp z)⟩)
          · rw [if_neg h0, if_neg (fun z => z.elim e3 h0)]; exact nop _
      · rw [if_neg h9, if_neg h9]; exact nop _
  · intro d σ W f m gs hd h hp
    obtain ⟨d, rfl⟩ : ∃ e, d = e + 10 := ⟨d - 10, by omega⟩
    have a0 : Ag kAm σ (uI σ 3210 0) := Ag.I Ag.rf rfl
    have h1 := h.nu (n := 3210) (x := 0) rfl
    have hp1 : PaM W m gs (uI σ 3210 0) := hp
    rw [g_Model_sheet_0, c_Model_sheet_8 N_inF, g_Model_sheet_11]
    unfold shS
    have nop : ∀ r : Int32, RnI (rI (uI σ 3210 0) r) (fun τ y => Ag kAm σ τ ∧ y = r ∧ MWo W f τ ∧ PaM W m gs τ ∧ MDx σ τ none) := fun r => RnI.mk ⟨a0, rfl, h1, hp1, ⟨rfl, rfl⟩⟩
    have yes : RnI (ev (d + 10) 54 40 [(0, .ref 50), (1, .int x1), (2, .int x2), (3, .int x3), (4, .int x4), (5, .int x3), (6, .int 0)] [] (mkH (uI σ 3210 0))) (fun τ y => Ag kAm σ τ ∧ y = (if x1 = 3 then (Int8.ofInt (-3)).toInt32 else brF W (seF W f x1 x2 x3 x4 (wp W)).1) ∧ MWo W (seF W f x1 x2 x3 x4 (wp W)).1 τ ∧ PaM W m gs τ ∧ MDx σ τ none) :=
      (M_shL (d := d + 7) h1).im (fun τ y ⟨e1, e2, e3⟩ => ⟨a0.tr (e1.wk rfl), e2, h.fr (a0.tr (e1.wk rfl)) (seF_ok h.1 h.1.2.2.2.2.2 h.2.1 _ (Nat.le_refl _)) e3, hp1.ag e1 rfl, ⟨(e1.1 3209 rfl).trans rfl, (e1.2.2.1 55 rfl).trans rfl⟩⟩)
    by_cases hin : inF x1 0 3 = 0
    · rw [if_pos hin, if_pos hin]; exact nop _
    · rw [if_neg hin, if_neg hin]
      obtain ⟨n, n0, n1, rfl⟩ := in_n (a := 0) (b := 3) hin rfl rfl (by decide) (by decide)
      by_cases h9 : x2 ≤ 9
      · rw [if_pos h9, if_pos h9]
        by_cases e3 : (3 : Int32) ≤ nI n
        · have hn : n = 3 := Decidable.byContradiction (fun z => nI_ge (a := n) (b := 3) (by omega) (by decide) e3)
          rw [if_pos e3, if_pos (Or.inl (by rw [hn]; rfl))]
          exact yes
        · have hn : ¬ nI n = 3 := fun z => e3 (by rw [z]; decide)
          rw [if_neg e3]
          by_cases h0 : 0 ≤ x2
          · rw [if_pos h0, if_pos (Or.inr h0)]; exact yes
          · rw [if_neg h0, if_neg (fun z => z.elim hn h0)]; exact nop _
      · rw [if_neg h9, if_neg h9]; exact nop _
end P4
