/-! heard, fits, asks -/
def allF (P : Nat → Bool) : Nat → Bool
  | 0 => true
  | n + 1 => allF P n && P n
theorem all_no {P : Nat → Bool} {i : Nat} (h : allF P i = false) : ∀ j, allF P (i + j) = false
  | 0 => h
  | j + 1 => by
    show (allF P (i + j) && P (i + j)) = false
    rw [all_no h j, Bool.false_and]
theorem all_congr {P Q : Nat → Bool} : ∀ n, (∀ i, i < n → P i = Q i) → allF P n = allF Q n
  | 0, _ => rfl
  | n + 1, h => by
    show (allF P n && P n) = (allF Q n && Q n)
    rw [all_congr n (fun i hi => h i (by omega)), h n (by omega)]
def f1F (W : Wd) (f : Nat → Int32) (p : Nat) (w v : Int32) : Bool :=
  bif w == 0 then decide (v ≤ wl W p) else bif w == 1 then f (16 + p) == v else bif w == 2 then f (25 + p) == v else bif w == 3 then decide (f (34 + p) ≤ v) else puF W f p == v
def CG (m : Nat) (a c : Nat → Int32) (σ : Sg) : Prop := m ≤ 12 ∧ sI σ 2562 = nI m ∧ ∀ i, i < m → sA σ 41 i = a i ∧ sA σ 42 i = c i ∧ (a i = 2 → z1 (c i))
def MG (m : Nat) (a c : Nat → Int32) (σ : Sg) : Prop := m ≤ 12 ∧ sI σ 3236 = nI m ∧ ∀ i, i < m → sA σ 68 i = a i ∧ sA σ 69 i = c i
section G1
variable {d k m : Nat} {σ τ : Sg} {W : Wd} {f : Nat → Int32} {a c : Nat → Int32} {x1 x2 : Int32} {K : List Nat}
theorem CG.ag (h : CG m a c σ) (g : Ag K σ τ) (hk : dj K [2562, 10041, 10042] = true) : CG m a c τ := by
  have a0 := g.1 2562 (dj_m hk (by decide))
  have a1 := g.2.1 41 (dj_m hk (by decide))
  have a2 := g.2.1 42 (dj_m hk (by decide))
  unfold CG; rw [a0, a1, a2]; exact h
theorem MG.ag (h : MG m a c σ) (g : Ag K σ τ) (hk : dj K [3236, 10068, 10069] = true) : MG m a c τ := by
  have a0 := g.1 3236 (dj_m hk (by decide))
  have a1 := g.2.1 68 (dj_m hk (by decide))
  have a2 := g.2.1 69 (dj_m hk (by decide))
  unfold MG; rw [a0, a1, a2]; exact h
theorem f1_4 {w v : Int32} (h0 : ¬ w = 0) (h1 : ¬ w = 1) (h2 : ¬ w = 2) (h3 : ¬ w = 3) {p : Nat} : f1F W f p w v = (puF W f p == v) := by
  unfold f1F; rw [beq_f h0, beq_f h1, beq_f h2, beq_f h3]; rfl
theorem bifle {x y : Int32} : (if x < y then rI σ 0 else rI σ 1) = rI σ (bif decide (y ≤ x) then 1 else 0) := by
  by_cases h : x < y
  · rw [if_pos h, decide_eq_false (Int32.not_le.mpr h)]; rfl
  · rw [if_neg h, decide_eq_true (Int32.not_lt.mp h)]; rfl
theorem bifeq {x y : Int32} : (if x = y then rI σ 1 else rI σ 0) = rI σ (bif x == y then 1 else 0) := by
  by_cases h : x = y
  · rw [if_pos h, beq_t h]; rfl
  · rw [if_neg h, beq_f h]; rfl
theorem C_fit1 (h : CWo W f σ) (hs : MS W f false σ) {p : Nat} (hp : p < wp W) {w v : Int32} (hz : w = 2 → z1 v) : ev (d + 1) 179 0 [(0, .ref 5), (1, .int (nI p)), (2, .int w), (3, .int v)] [] (mkH σ) = rI σ (bif f1F W f p w v then 1 else 0) := by
  have w9 := h.1.2.1
  have ib : ax_ix (nI p) 9 = true := ixn (by omega) (by decide)
  obtain ⟨q1, q2, q3⟩ := h.2.2.2.2.1.2.1 p hp
  rw [g_Gossip_fitsOne_0]
  have last : (¬ w = 0) → (¬ w = 1) → (¬ w = 2) → (¬ w = 3) → ev (d + 1) 179 105 [(0, .ref 5), (1, .int (nI p)), (2, .int w), (3, .int v)] [] (mkH σ) = rI σ (bif f1F W f p w v then 1 else 0) := fun h0 h1 h2 h3 => by
    rw [g_Gossip_fitsOne_105, ib, cond_true, cln (n := p) (by omega), show sA σ 22 p = puF W f p from hs.2 p hp, bifeq, f1_4 h0 h1 h2 h3]
  rcases sw_n w 3 (by decide) with hw | ⟨j, hj, rfl⟩
  · rw [w_Gossip_fitsOne_1_d hw]
    exact last (fun e => by rw [e] at hw; revert hw; decide) (fun e => by rw [e] at hw; revert hw; decide) (fun e => by rw [e] at hw; revert hw; decide) (fun e => by rw [e] at hw; revert hw; decide)
  · match j, hj with
    | 0, _ =>
      show ev (d + 1) 179 1 [(0, .ref 5), (1, .int (nI p)), (2, .int 0), (3, .int v)] [.int 0] (mkH σ) = rI σ (bif decide (v ≤ wl W p) then 1 else 0)
      rw [w_Gossip_fitsOne_1_0, g_Gossip_fitsOne_32, ib, cond_true, cln (n := p) (by omega), show sA σ 18 p = wl W p from h.2.2.1.2.2 p hp, bifle]
    | 1, _ =>
      show ev (d + 1) 179 1 [(0, .ref 5), (1, .int (nI p)), (2, .int 1), (3, .int v)] [.int 1] (mkH σ) = rI σ (bif f (16 + p) == v then 1 else 0)
      rw [w_Gossip_fitsOne_1_1, g_Gossip_fitsOne_48, ib, cond_true, cln (n := p) (by omega), show sA σ 19 p = f (16 + p) from q1, bifeq]
    | 2, _ =>
      show ev (d + 1) 179 1 [(0, .ref 5), (1, .int (nI p)), (2, .int 2), (3, .int v)] [.int 2] (mkH σ) = rI σ (bif f (25 + p) == v then 1 else 0)
      rw [w_Gossip_fitsOne_1_2, g_Gossip_fitsOne_64, ib, cond_true, cln (n := p) (by omega), show sA σ 20 p = f (25 + p) from q2]
      rcases hz rfl with e | e
      · rw [if_neg (by rw [e]; decide), bifeq, e]
      · rw [if_pos e, bifeq, e]
    | 3, _ =>
      show ev (d + 1) 179 1 [(0, .ref 5), (1, .int (nI p)), (2, .int 3), (3, .int v)] [.int 3] (mkH σ) = rI σ (bif decide (f (34 + p) ≤ v) then 1 else 0)
      rw [w_Gossip_fitsOne_1_3, g_Gossip_fitsOne_89, ib, cond_true, cln (n := p) (by omega), show sA σ 21 p = f (34 + p) from q3, bifle]
    | j + 4, hj => exact absurd hj (by omega)
theorem C_all (h : CWo W f σ) (hs : MS W f false σ) (hg : CG m a c σ) {p : Nat} (hp : p < wp W) : ev (d + 2) 178 0 [(0, .ref 40), (1, .ref 5), (2, .int (nI p))] [] (mkH σ) = rI σ (bif allF (fun i => f1F W f p (a i) (c i)) m then 1 else 0) := by
  obtain ⟨m12, g1, g2⟩ := hg
  rw [g_Gossip_fitsAll_0]
  have key : ∀ j i, i + j = m → allF (fun i => f1F W f p (a i) (c i)) i = true → ev (d + 2) 178 2 [(0, .ref 40), (1, .ref 5), (2, .int (nI p)), (3, .int (nI i))] [] (mkH σ) = rI σ (bif allF (fun i => f1F W f p (a i) (c i)) m then 1 else 0) := by
    intro j
    induction j with
    | zero =>
      intro i hi ha
      have : i = m := by omega
      subst this
      rw [g_Gossip_fitsAll_2, g1, if_pos (nI_le (Nat.le_refl _) (by omega)), ha]; rfl
    | succ j ih =>
      intro i hi ha
      obtain ⟨e1, e2, e3⟩ := g2 i (by omega)
      rw [g_Gossip_fitsAll_2, g1, if_neg (nI_ge (by omega) (by omega)), ixn (k := i) (by omega) (by decide), cond_true, cond_true, cln (n := i) (by omega), e1, e2, c_Gossip_fitsAll_24 (C_fit1 h hs hp e3), g_Gossip_fitsAll_27]
      cases hb : f1F W f p (a i) (c i) with
      | true =>
        rw [cond_true, if_neg (by decide), nI_1]
        exact ih (i + 1) (by omega) (by show (allF _ i && f1F W f p (a i) (c i)) = true; rw [ha, hb]; rfl)
      | false =>
        rw [cond_false, if_pos rfl]
        have : allF (fun i => f1F W f p (a i) (c i)) (i + 1) = false := by show (allF _ i && f1F W f p (a i) (c i)) = false; rw [hb, Bool.and_false]
        have h2 := all_no this j
        rw [show i + 1 + j = m by omega] at h2
        rw [h2]; rfl
  exact key m 0 (by omega) rfl
def fitF (W : Wd) (f : Nat → Int32) (m : Nat) (a c : Nat → Int32) : Int32 := bitsF (wp W) (fun p => allF (fun i => f1F W f p (a i) (c i)) m)
theorem C_who (h : CWo W f σ) (hg : CG m a c σ) : RnI (ev (d + 4) 177 0 [(0, .ref 40), (1, .ref 5)] [] (mkH σ)) (fun τ x => Ag (kM false) σ τ ∧ CWo W f τ ∧ x = fitF W f m a c) := by
  have w9 := h.1.2.1
  obtain ⟨τ, k1, k2, k3, k4⟩ := K_now (d := d) h
  have hg2 := hg.ag k2 rfl
  rw [g_Gossip_whoFit_0, c_Gossip_whoFit_1 k1, g_Gossip_whoFit_4]
  refine RnI.eq (b := rI τ (fitF W f m a c)) ?_ (RnI.mk ⟨k2, k3, rfl⟩)
  refine acc_loop (f := fun k z => ev (d + 4) 177 8 [(0, .ref 40), (1, .ref 5), (2, .int z), (3, .int (nI k))] [] (mkH τ)) (R := fun z => rI τ z) (n := wp W) (fun k z hk => ?_) (fun z => ?_) 0
  · show ev (d + 4) 177 8 [(0, .ref 40), (1, .ref 5), (2, .int z), (3, .int (nI k))] [] (mkH τ) = _
    rw [g_Gossip_whoFit_8, show sI τ 334 = nI (wp W) from k3.2.2.1.2.1, if_neg (nI_ge hk (by omega)), c_Gossip_whoFit_20 (C_all (d := d + 1) k3 k4 hg2 hk), g_Gossip_whoFit_23, nI_1]
    dsimp only [bitF]
    cases allF (fun i => f1F W f k (a i) (c i)) m
    · rw [cond_false, if_pos rfl]; rfl
    · rw [cond_true, if_neg (by decide)]; rfl
  · show ev (d + 4) 177 8 [(0, .ref 40), (1, .ref 5), (2, .int z), (3, .int (nI (wp W)))] [] (mkH τ) = _
    rw [g_Gossip_whoFit_8, show sI τ 334 = nI (wp W) from k3.2.2.1.2.1, if_pos (nI_le (Nat.le_refl _) (by omega))]
theorem M_one (hd : 330 ≤ d) (h : MWo W f σ) {p : Nat} (hp : p < wp W) {w v : Int32} : RnI (ev (d + 1) 103 0 [(0, .ref 50), (1, .int (nI p)), (2, .int w), (3, .int v)] [] (mkH σ)) (fun τ x => Ag kP σ τ ∧ x = (bif f1F W f p w v then 1 else 0)) := by
  have w9 := h.1.2.1
  obtain ⟨q1, q2, q3⟩ := h.2.2.2.1.2.1 p hp
  rw [g_Model_fits_0]
  have last : (¬ w = 0) → (¬ w = 1) → (¬ w = 2) → (¬ w = 3) → RnI (ev (d + 1) 103 105 [(0, .ref 50), (1, .int (nI p)), (2, .int w), (3, .int v)] [] (mkH σ)) (fun τ x => Ag kP σ τ ∧ x = (bif f1F W f p w v then 1 else 0)) := fun h0 h1 h2 h3 => by
    obtain ⟨d, rfl⟩ : ∃ e, d = e + 1 := ⟨d - 1, by omega⟩
    obtain ⟨τ, y, k1, k2, k3⟩ := N_puff (d := d) (v := false) (by omega) h.1 h.2.2.1 h.2.1 h.2.2.2.1 h.2.2.2.2 hp
    rw [g_Model_fits_105, c_Model_fits_111 k1, g_Model_fits_114, bifeq, f1_4 h0 h1 h2 h3, k3]
    exact RnI.mk ⟨k2, rfl⟩
  rcases sw_n w 3 (by decide) with hw | ⟨j, hj, rfl⟩
  · rw [w_Model_fits_1_d hw]
    exact last (fun e => by rw [e] at hw; revert hw; decide) (fun e => by rw [e] at hw; revert hw; decide) (fun e => by rw [e] at hw; revert hw; decide) (fun e => by rw [e] at hw; revert hw; decide)
  · match j, hj with
    | 0, _ =>
      show RnI (ev (d + 1) 103 1 [(0, .ref 50), (1, .int (nI p)), (2, .int 0), (3, .int v)] [.int 0] (mkH σ)) (fun τ x => Ag kP σ τ ∧ x = (bif decide (v ≤ wl W p) then 1 else 0))
      rw [w_Model_fits_1_0, g_Model_fits_32, ixn (k := p) (by omega) (by decide), cond_true, cln (n := p) (by omega), h.2.2.1.2.2.2.2 p hp, bifle]
      exact RnI.mk ⟨Ag.rf, rfl⟩
    | 1, _ =>
      show RnI (ev (d + 1) 103 1 [(0, .ref 50), (1, .int (nI p)), (2, .int 1), (3, .int v)] [.int 1] (mkH σ)) (fun τ x => Ag kP σ τ ∧ x = (bif f (16 + p) == v then 1 else 0))
      rw [w_Model_fits_1_1, g_Model_fits_48, add16, ixn (k := 16 + p) (by omega) (by decide), cond_true, cln (n := 16 + p) (by omega), q1, bifeq]
      exact RnI.mk ⟨Ag.rf, rfl⟩
    | 2, _ =>
      show RnI (ev (d + 1) 103 1 [(0, .ref 50), (1, .int (nI p)), (2, .int 2), (3, .int v)] [.int 2] (mkH σ)) (fun τ x => Ag kP σ τ ∧ x = (bif f (25 + p) == v then 1 else 0))
      rw [w_Model_fits_1_2, g_Model_fits_67, add25, ixn (k := 25 + p) (by omega) (by decide), cond_true, cln (n := 25 + p) (by omega), q2, bifeq]
      exact RnI.mk ⟨Ag.rf, rfl⟩
    | 3, _ =>
      show RnI (ev (d + 1) 103 1 [(0, .ref 50), (1, .int (nI p)), (2, .int 3), (3, .int v)] [.int 3] (mkH σ)) (fun τ x => Ag kP σ τ ∧ x = (bif decide (f (34 + p) ≤ v) then 1 else 0))
      rw [w_Model_fits_1_3, g_Model_fits_86, add34, ixn (k := 34 + p) (by omega) (by decide), cond_true, cln (n := 34 + p) (by omega), q3, bifle]
      exact RnI.mk ⟨Ag.rf, rfl⟩
    | j + 4, hj => exact absurd hj (by omega)
theorem M_fitting (hd : 340 ≤ d) (h : MWo W f σ) (hg : MG m a c σ) : RnI (ev (d + 2) 104 0 [(0, .ref 50)] [] (mkH σ)) (fun τ x => Ag kP σ τ ∧ x = fitF W f m a c) := by
  have w9 := h.1.2.1
  have m12 := hg.1
  rw [g_Model_fitting_0]
  have inn : ∀ p, p < wp W → ∀ z j i (τ : Sg), i + j = m → Ag kP σ τ → ∃ τ', Ag kP σ τ' ∧ ev (d + 2) 104 17 [(0, .ref 50), (1, .int z), (2, .int (nI p)), (3, .int (bif allF (fun i => f1F W f p (a i) (c i)) i then 1 else 0)), (4, .int (nI i))] [] (mkH τ) = ev (d + 2) 104 4 [(0, .ref 50), (1, .int (bitF (fun p => allF (fun i => f1F W f p (a i) (c i)) m) p z)), (2, .int (nI (p + 1)))] [] (mkH τ') := by
    intro p hp z j
    induction j with
    | zero =>
      intro i τ hi g
      have : i = m := by omega
      subst this
      refine ⟨τ, g, ?_⟩
      rw [g_Model_fitting_17, (hg.ag g rfl).2.1, if_pos (nI_le (Nat.le_refl _) (by omega)), nI_1]
      dsimp only [bitF]
      cases allF (fun i => f1F W f p (a i) (c i)) i
      · rw [cond_false, if_pos rfl]; rfl
      · rw [cond_true, if_neg (by decide)]; rfl
    | succ j ih =>
      intro i τ hi g
      have hgt := hg.ag g rfl
      rw [g_Model_fitting_17, hgt.2.1, if_neg (nI_ge (by omega) (by omega)), nI_1]
      have e : allF (fun i => f1F W f p (a i) (c i)) (i + 1) = (allF (fun i => f1F W f p (a i) (c i)) i && f1F W f p (a i) (c i)) := rfl
      have ih2 := fun τ g => ih (i + 1) τ (by omega) g
      rw [e] at ih2
      cases hA : allF (fun i => f1F W f p (a i) (c i)) i with
      | false =>
        rw [hA, Bool.false_and, cond_false] at ih2
        rw [cond_false, if_pos rfl]
        exact ih2 τ g
      | true =>
        rw [hA, Bool.true_and] at ih2
        rw [cond_true, if_neg (by decide), ixn (k := i) (by omega) (by decide), cond_true, cond_true, cln (n := i) (by omega), (hgt.2.2 i (by omega)).1, (hgt.2.2 i (by omega)).2]
        obtain ⟨ρ, y, r1, r2, r3⟩ := M_one (d := d) (by omega) (h.ag g rfl) hp (w := a i) (v := c i)
        rw [c_Model_fitting_46 r1, g_Model_fitting_49, r3, nI_1]
        cases hB : f1F W f p (a i) (c i) with
        | false =>
          rw [hB, cond_false] at ih2
          rw [cond_false, if_pos rfl]
          exact ih2 ρ (g.tr r2)
        | true =>
          rw [hB, cond_true] at ih2
          rw [cond_true, if_neg (by decide)]
          exact ih2 ρ (g.tr r2)
  refine lpG (α := Sg × Int32) (n := wp W) (P := fun p s => Ag kP σ s.1 ∧ s.2 = accF (bitF (fun p => allF (fun i => f1F W f p (a i) (c i)) m)) p 0)
    (f := fun p s => ev (d + 2) 104 4 [(0, .ref 50), (1, .int s.2), (2, .int (nI p))] [] (mkH s.1)) (Q := fun o => RnI o _) ?_ ?_ (wp W) 0 (σ, 0) (by omega) ⟨Ag.rf, rfl⟩
  · rintro p ⟨τ, z⟩ hp ⟨g, e⟩ nx
    show RnI (ev (d + 2) 104 4 [(0, .ref 50), (1, .int z), (2, .int (nI p))] [] (mkH τ)) _
    obtain ⟨ρ, r1, r2⟩ := inn p hp z m 0 τ (by omega) g
    rw [g_Model_fitting_4, (h.ag g rfl).2.2.1.2.1, if_neg (nI_ge hp (by omega))]
    exact RnI.eq r2 (nx (ρ, bitF (fun p => allF (fun i => f1F W f p (a i) (c i)) m) p z) ⟨r1, congrArg (bitF (fun p => allF (fun i => f1F W f p (a i) (c i)) m) p) e⟩)
  · rintro ⟨τ, z⟩ ⟨g, e⟩
    show RnI (ev (d + 2) 104 4 [(0, .ref 50), (1, .int z), (2, .int (nI (wp W)))] [] (mkH τ)) _
    rw [g_Model_fitting_4, (h.ag g rfl).2.2.1.2.1, if_pos (nI_le (Nat.le_refl _) (by omega))]
    exact RnI.mk ⟨g, e⟩
theorem q_opG {D jc jm : Nat} {Lc Lm : ax_L} (spec : Wd → (Nat → Int32) → Nat → (Nat → Int32) → (Nat → Int32) → Int32 × Option (List Int64)) (hl : ∀ W f m a c, lenOk (spec W f m a c).2)
    (hc : ∀ d σ W f m a c, D ≤ d → CWo W f σ → CG m a c σ → RnI (ev d jc 0 Lc [] (mkH σ)) (fun τ x => Ag kQc σ τ ∧ x = (spec W f m a c).1 ∧ TDx σ τ (spec W f m a c).2))
    (hm : ∀ d σ W f m a c, D ≤ d → MWo W f σ → MG m a c σ → RnI (ev d jm 0 Lm [] (mkH σ)) (fun τ x => Ag kQm σ τ ∧ x = (spec W f m a c).1 ∧ MDx σ τ (spec W f m a c).2))
    {d : Nat} (hd : D ≤ d) (h : INV k σ) : OpR (INV (k + 1)) d jc jm Lc Lm σ := by
  have h0 := h
  obtain ⟨W, f, ⟨a1, a2, a3, a4⟩, a5, a6, ⟨m, z1, z2, z3, z4⟩, a8, a9⟩ := h
  obtain ⟨σ1, r, c1, c2, c3, c4⟩ := hc d σ W f m (sA σ 41) (sA σ 42) hd a1 ⟨z1, z2, fun i hi => ⟨rfl, rfl, (z4 i hi).2.2⟩⟩
  have hmg : MG m (sA σ 41) (sA σ 42) σ := ⟨z1, z3, fun i hi => ⟨(z4 i hi).1.symm, (z4 i hi).2.1.symm⟩⟩
  obtain ⟨σ2, r2, m1, m2, m3, m4⟩ := hm d σ1 W f m (sA σ 41) (sA σ 42) hd (a2.ag c2 (by decide)) (hmg.ag c2 rfl)
  have e : r2 = r := m3.trans c3.symm
  subst e
  refine ⟨σ1, σ2, r2, c1, m1, c2.2.2.2.2.2.2, m2.2.2.2.2.2.2.trans c2.2.2.2.2.2.2, m2.2.2.2.2.2.1.trans c2.2.2.2.2.2.1, ?_⟩
  have g : Ag (kQc ++ kQm) σ σ2 := (c2.wk (by decide)).tr (m2.wk (by decide))
  exact h0.keep g (a6.x c4 m4 (hl W f m _ _) ⟨c2.1 3209 rfl, c2.2.2.1 55 rfl⟩ ⟨m2.1 2817 rfl, m2.2.2.1 45 rfl⟩) (by decide) (by decide) (by decide) (by decide) (by decide) (by decide) (by decide)
theorem op_fits : Op_fits 400 INV := by
  intro d hd k σ _ h
  refine q_opG (D := 400) (fun W f m a c => (fitF W f m a c, some [(bcF (fitF W f m a c)).toInt64])) (fun W f m a c => by show 1 ≤ 9; decide) ?_ ?_ hd h
  · intro d σ W f m a c hd h hg
    obtain ⟨d, rfl⟩ : ∃ e, d = e + 10 := ⟨d - 10, by omega⟩
    obtain ⟨τ, x, k1, k2, k3, rfl⟩ := C_who (d := d + 5) h hg
    obtain ⟨ρ, t1, t2, t3⟩ := T_one (d := d + 7) (σ := τ) (x := (bcF (fitF W f m a c)).toInt64)
    rw [g_Main_fits_0, c_Main_fits_8 k1, g_Main_fits_11, c_Main_fits_17 bc_ev, g_Main_fits_20, c_Main_fits_21 t1, g_Main_fits_24]
    exact RnI.mk ⟨(k2.wk rfl).tr (t2.wk rfl), rfl, t3⟩
  · intro d σ W f m a c hd h hg
    obtain ⟨d, rfl⟩ : ∃ e, d = e + 10 := ⟨d - 10, by omega⟩
    have a0 : Ag [3210] σ (uI σ 3210 0) := Ag.I Ag.rf rfl
    obtain ⟨τ, x, k1, k2, rfl⟩ := M_fitting (d := d + 7) (by omega) (h.ag a0 rfl) (hg.ag a0 rfl)
    obtain ⟨ρ, t1, t2, t3⟩ := N_tell1 (d := d + 8) (σ := τ) (x := (bcF (fitF W f m a c)).toInt64)
    rw [g_Model_fits__I_0, c_Model_fits__I_6 k1, g_Model_fits__I_9, c_Model_fits__I_17 bc_ev, g_Model_fits__I_20, c_Model_fits__I_21 t1, g_Model_fits__I_24]
    exact RnI.mk ⟨(a0.wk rfl).tr ((k2.wk rfl).tr (t2.wk rfl)), rfl, t3⟩
/-! asks -/
theorem bits_mask {n : Nat} (hn : n ≤ 9) (P : Nat → Bool) : ∃ m, m < 512 ∧ bitsF n P = nI m ∧ ∀ i, i < 9 → Nat.testBit m i = (decide (i < n) && P i) := by
  obtain ⟨m, h1, h2⟩ := mask_ex 9 (fun p => decide (p < n) && P p)
  refine ⟨m, h1, ?_, fun i hi => (h2 i hi).symm⟩
  rw [← bits_tab m h1]
  unfold bitsF
  rw [show 9 = n + (9 - n) by omega, accF_more (9 - n) (fun k y k1 k2 => ?_)]
  · refine accF_congr (fun k y hk => ?_)
    dsimp only [bitF]
    rw [← h2 k (by omega), decide_eq_true hk, Bool.true_and]
  · dsimp only [bitF]
    rw [← h2 k (by omega), decide_eq_false (by omega), Bool.false_and]
    exact Int32.or_zero
theorem bits_and {n : Nat} (hn : n ≤ 9) (P Q : Nat → Bool) : bitsF n P &&& bitsF n Q = bitsF n (fun p => P p && Q p) := by
  obtain ⟨m1, a1, a2, a3⟩ := bits_mask hn P
  obtain ⟨m2, b1, b2, b3⟩ := bits_mask hn Q
  obtain ⟨m3, c1, c2, c3⟩ := bits_mask hn (fun p => P p && Q p)
  rw [a2, b2, c2, and_nI]
  refine congrArg nI (Nat.eq_of_testBit_eq (fun i => ?_))
  rw [Nat.testBit_and]
  by_cases hi : i < 9
  · rw [a3 i hi, b3 i hi, c3 i hi]
    cases decide (i < n) <;> cases P i <;> cases Q i <;> rfl
  · rw [tb_hi a1 (by omega), tb_hi c1 (by omega)]; rfl
theorem bits_hs {n : Nat} (hn : n ≤ 9) (P : Nat → Bool) {p : Nat} (hp : p < n) : hsF (bitsF n P) p = P p := by
  obtain ⟨m1, a1, a2, a3⟩ := bits_mask hn P
  rw [a2, hs_tab m1 a1 p (by omega), a3 p (by omega), decide_eq_true hp, Bool.true_and]
def acF (W : Wd) (F v : Int32) : Int32 := bcF (F &&& bitsF (wp W) (fun p => decide (v ≤ wl W p)))
def amF (W : Wd) (F v : Int32) : Int32 := if acF W F v < bcF F - acF W F v then bcF F - acF W F v else acF W F v
def askS (W : Wd) (F : Int32) : Nat → Int32 × Int32
  | 0 => (1, amF W F 1)
  | k + 1 => if amF W F (nI (k + 2)) < (askS W F k).2 then (nI (k + 2), amF W F (nI (k + 2))) else askS W F k
theorem am_tab : ∀ i, i < 10 → ∀ j, j < 10 → (if nI i < nI j - nI i then nI j - nI i else nI i) < (1000000 : Int32) ∧ (if nI i < nI j - nI i then nI j - nI i else nI i) < (2147483647 : Int32) := by decide +kernel
theorem am_lt {n v : Nat} {W : Wd} (hw : wp W ≤ 9) (P : Nat → Bool) (v : Int32) : amF W (bitsF (wp W) P) v < 1000000 ∧ amF W (bitsF (wp W) P) v < 2147483647 := by
  unfold amF acF
  rw [bits_and hw]
  obtain ⟨m1, a1, a2⟩ := bits_nat hw P
  obtain ⟨m3, c1, c2⟩ := bits_nat hw (fun p => P p && decide (v ≤ wl W p))
  rw [c2, a2]
  obtain ⟨i, i1, i2⟩ := bc_n c1
  obtain ⟨j, j1, j2⟩ := bc_n a1
  rw [i2, j2]
  exact am_tab i i1 j j1
def asSp (W : Wd) (f : Nat → Int32) (m : Nat) (a c : Nat → Int32) : Int32 × Option (List Int64) :=
  if fitF W f m a c = 0 then ((Int8.ofInt (-2)).toInt32, none) else ((askS W (fitF W f m a c) 8).1, some [(askS W (fitF W f m a c) 8).2.toInt64])
theorem op_asks : Op_asks 400 INV := by
  intro d hd k σ _ h
  refine q_opG (D := 400) asSp (fun W f m a c => by unfold asSp; split; exact trivial; show 1 ≤ 9; decide) ?_ ?_ hd h
  · intro d σ W f m a c hd h hg
    obtain ⟨d, rfl⟩ : ∃ e, d = e + 10 := ⟨d - 10, by omega⟩
    have w9 := h.1.2.1
    obtain ⟨τ, x, k1, k2, k3, rfl⟩ := C_who (d := d + 5) h hg
    rw [g_Main_asks_0, c_Main_asks_8 k1, g_Main_asks_11]
    have g0 : Ag kQc σ τ := k2.wk rfl
    unfold asSp
    by_cases hF : fitF W f m a c = 0
    · rw [if_pos hF, if_pos hF]
      exact RnI.mk ⟨g0, rfl, tdn k2 rfl⟩
    · rw [if_neg hF, if_neg hF]
      have hlt := am_lt (n := 0) (v := 0) w9 (fun p => allF (fun i => f1F W f p (a i) (c i)) m)
      have hFe : fitF W f m a c = bitsF (wp W) (fun p => allF (fun i => f1F W f p (a i) (c i)) m) := rfl
      rw [← hFe] at hlt
      generalize fitF W f m a c = F at hlt ⊢
      have one : ∀ j z y, j < 9 → ev (d + 10) 262 28 [(0, .ref 0), (1, .int F), (2, .int z), (3, .int y), (4, .int (nI (j + 1)))] [] (mkH τ) = (if y ≤ amF W F (nI (j + 1)) then ev (d + 10) 262 28 [(0, .ref 0), (1, .int F), (2, .int z), (3, .int y), (4, .int (nI (j + 2)))] [] (mkH τ) else ev (d + 10) 262 28 [(0, .ref 0), (1, .int F), (2, .int (nI (j + 1))), (3, .int (amF W F (nI (j + 1)))), (4, .int (nI (j + 2)))] [] (mkH τ)) := by
        intro j z y hj
        have e1 : bitsF (wp W) (fun p => decide (nI (j + 1) ≤ sA τ (fa false 8) p)) = bitsF (wp W) (fun p => decide (nI (j + 1) ≤ wl W p)) := accF_congr (fun k y hk => by dsimp only [bitF]; rw [k3.2.2.1.2.2 k hk])
        rw [g_Main_asks_28, if_neg (show ¬ (9 : Int32) < nI (j + 1) from nI_nlt (a := 9) (b := j + 1) (by omega) (by omega)), c_Main_asks_42 (F_lungs (w := false) (n := wp W) k3.2.2.1.2.1 w9), g_Main_asks_45, c_Main_asks_46 bc_ev, g_Main_asks_49, c_Main_asks_54 bc_ev, g_Main_asks_57, e1, nI_1]
        rfl
      have key : ∀ k, k ≤ 8 → ev (d + 10) 262 28 [(0, .ref 0), (1, .int F), (2, .int 0), (3, .int 2147483647), (4, .int 1)] [] (mkH τ) = ev (d + 10) 262 28 [(0, .ref 0), (1, .int F), (2, .int (askS W F k).1), (3, .int (askS W F k).2), (4, .int (nI (k + 2)))] [] (mkH τ) := by
        intro k
        induction k with
        | zero =>
          intro _
          refine (one 0 0 2147483647 (by decide)).trans ?_
          rw [if_neg (Int32.not_le.mpr (hlt _).2)]
          rfl
        | succ k ih =>
          intro hk
          rw [ih (by omega), one (k + 1) _ _ (by omega)]
          show _ = ev (d + 10) 262 28 [(0, .ref 0), (1, .int F), (2, .int (if amF W F (nI (k + 2)) < (askS W F k).2 then (nI (k + 2), amF W F (nI (k + 2))) else askS W F k).1), (3, .int (if amF W F (nI (k + 2)) < (askS W F k).2 then (nI (k + 2), amF W F (nI (k + 2))) else askS W F k).2), (4, .int (nI (k + 3)))] [] (mkH τ)
          by_cases hq : amF W F (nI (k + 2)) < (askS W F k).2
          · rw [if_neg (Int32.not_le.mpr hq), if_pos hq]
          · rw [if_pos (Int32.not_lt.mp hq), if_neg hq]
      obtain ⟨ρ, t1, t2, t3⟩ := T_one (d := d + 7) (σ := τ) (x := (askS W F 8).2.toInt64)
      rw [key 8 (Nat.le_refl _), g_Main_asks_28, if_pos (by decide), c_Main_asks_89 t1, g_Main_asks_92]
      clear key t1
      generalize askS W F 8 = s at t3 ⊢
      exact RnI.mk ⟨g0.tr (t2.wk rfl), rfl, t3⟩
  · intro d σ W f m a c hd h hg
    obtain ⟨d, rfl⟩ : ∃ e, d = e + 10 := ⟨d - 10, by omega⟩
    have w9 := h.1.2.1
    have a0 : Ag [3210] σ (uI σ 3210 0) := Ag.I Ag.rf rfl
    obtain ⟨τ, x, k1, k2, rfl⟩ := M_fitting (d := d + 7) (by omega) (h.ag a0 rfl) (hg.ag a0 rfl)
    have k3 : MWo W f τ := (h.ag a0 rfl).ag k2 rfl
    rw [g_Model_asks_0, c_Model_asks_6 k1, g_Model_asks_9]
    have g0 : Ag kQm σ τ := (a0.wk rfl).tr (k2.wk rfl)
    unfold asSp
    by_cases hF : fitF W f m a c = 0
    · rw [if_pos hF, if_pos hF]
      exact RnI.mk ⟨g0, rfl, ⟨(k2.1 3209 rfl).trans rfl, (k2.2.2.1 55 rfl).trans rfl⟩⟩
    · rw [if_neg hF, if_neg hF]
      have hlt := am_lt (n := 0) (v := 0) w9 (fun p => allF (fun i => f1F W f p (a i) (c i)) m)
      have hFe : fitF W f m a c = bitsF (wp W) (fun p => allF (fun i => f1F W f p (a i) (c i)) m) := rfl
      rw [← hFe] at hlt
      have hand : ∀ v : Int32, acF W (fitF W f m a c) v = accF (cntF (fun p => hsF (fitF W f m a c) p && decide (v ≤ wl W p))) (wp W) 0 := fun v => by
        unfold acF
        rw [hFe, bits_and w9, bc_bits w9]
        refine accF_congr (fun k y hk => ?_)
        dsimp only [cntF]
        rw [bits_hs w9 _ hk]
      generalize fitF W f m a c = F at hlt hand ⊢
      have cnt : ∀ v z y : Int32, ev (d + 10) 106 39 [(0, .ref 50), (1, .int F), (2, .int z), (3, .int y), (4, .int v), (5, .int 0), (6, .int 0)] [] (mkH τ) = ev (d + 10) 106 88 [(0, .ref 50), (1, .int F), (2, .int z), (3, .int y), (4, .int v), (5, .int (acF W F v)), (6, .int (nI (wp W)))] [.int F, .int (acF W F v)] (mkH τ) := by
        intro v z y
        rw [hand]
        refine acc_loop (f := fun k u => ev (d + 10) 106 39 [(0, .ref 50), (1, .int F), (2, .int z), (3, .int y), (4, .int v), (5, .int u), (6, .int (nI k))] [] (mkH τ)) (R := fun u => ev (d + 10) 106 88 [(0, .ref 50), (1, .int F), (2, .int z), (3, .int y), (4, .int v), (5, .int u), (6, .int (nI (wp W)))] [.int F, .int u] (mkH τ)) (n := wp W) (fun k u hk => ?_) (fun u => ?_) 0
        · show ev (d + 10) 106 39 [(0, .ref 50), (1, .int F), (2, .int z), (3, .int y), (4, .int v), (5, .int u), (6, .int (nI k))] [] (mkH τ) = _
          have hh : ev (d + 9) 11 0 [(0, .int F), (1, .int (nI k))] [] (mkH τ) = rI τ (bif hsF F k then 1 else 0) := by
            rw [g_Model_has_0]
            unfold hsF
            by_cases hq : (F >>> (nI k &&& 31)) &&& 1 = 1
            · rw [if_pos hq, beq_t hq]; rfl
            · rw [if_neg hq, beq_f hq]; rfl
          dsimp only [cntF]
          rw [g_Model_asks_39, k3.2.2.1.2.1, if_neg (nI_ge hk (by omega)), c_Model_asks_53 hh, g_Model_asks_56, nI_1, Int32.add_zero]
          cases hsF F k with
          | false => rw [cond_false, if_pos rfl, Bool.false_and]; rfl
          | true =>
            rw [cond_true, if_neg (by decide), ixn (k := k) (by omega) (by decide), cond_true, cln (n := k) (by omega), k3.2.2.1.2.2.2.2 k hk, Bool.true_and]
            by_cases hq : wl W k < v
            · rw [if_pos hq, decide_eq_false (Int32.not_le.mpr hq)]; rfl
            · rw [if_neg hq, decide_eq_true (Int32.not_lt.mp hq)]; rfl
        · show ev (d + 10) 106 39 [(0, .ref 50), (1, .int F), (2, .int z), (3, .int y), (4, .int v), (5, .int u), (6, .int (nI (wp W)))] [] (mkH τ) = _
          rw [g_Model_asks_39, k3.2.2.1.2.1, if_pos (nI_le (Nat.le_refl _) (by omega))]
      have one : ∀ j z y, j < 9 → ev (d + 10) 106 26 [(0, .ref 50), (1, .int F), (2, .int z), (3, .int y), (4, .int (nI (j + 1)))] [] (mkH τ) = (if amF W F (nI (j + 1)) < y then ev (d + 10) 106 26 [(0, .ref 50), (1, .int F), (2, .int (nI (j + 1))), (3, .int (amF W F (nI (j + 1)))), (4, .int (nI (j + 2)))] [] (mkH τ) else ev (d + 10) 106 26 [(0, .ref 50), (1, .int F), (2, .int z), (3, .int y), (4, .int (nI (j + 2)))] [] (mkH τ)) := by
        intro j z y hj
        rw [g_Model_asks_26, if_neg (show ¬ (9 : Int32) < nI (j + 1) from nI_nlt (a := 9) (b := j + 1) (by omega) (by omega)), cnt, c_Model_asks_88 bc_ev, g_Model_asks_91, nI_1]
        rfl
      have key : ∀ k, k ≤ 8 → ev (d + 10) 106 26 [(0, .ref 50), (1, .int F), (2, .int (Int32.ofInt (-1))), (3, .int 1000000), (4, .int 1)] [] (mkH τ) = ev (d + 10) 106 26 [(0, .ref 50), (1, .int F), (2, .int (askS W F k).1), (3, .int (askS W F k).2), (4, .int (nI (k + 2)))] [] (mkH τ) := by
        intro k
        induction k with
        | zero =>
          intro _
          refine (one 0 _ 1000000 (by decide)).trans ?_
          rw [if_pos (hlt _).1]
          rfl
        | succ k ih =>
          intro hk
          rw [ih (by omega), one (k + 1) _ _ (by omega)]
          show _ = ev (d + 10) 106 26 [(0, .ref 50), (1, .int F), (2, .int (if amF W F (nI (k + 2)) < (askS W F k).2 then (nI (k + 2), amF W F (nI (k + 2))) else askS W F k).1), (3, .int (if amF W F (nI (k + 2)) < (askS W F k).2 then (nI (k + 2), amF W F (nI (k + 2))) else askS W F k).2), (4, .int (nI (k + 3)))] [] (mkH τ)
          by_cases hq : amF W F (nI (k + 2)) < (askS W F k).2
          · rw [if_pos hq, if_pos hq]
          · rw [if_neg hq, if_neg hq]
      obtain ⟨ρ, t1, t2, t3⟩ := N_tell1 (d := d + 8) (σ := τ) (x := (askS W F 8).2.toInt64)
      rw [key 8 (Nat.le_refl _), g_Model_asks_26, if_pos (by decide), c_Model_asks_128 t1, g_Model_asks_131]
      clear key t1
      generalize askS W F 8 = s at t3 ⊢
      exact RnI.mk ⟨g0.tr (t2.wk rfl), rfl, t3⟩
/-! heard -/
def loF (j : Nat) : Nat := ([1, 0, 0, 0, 0] : List Nat).getD j 0
def hiF (j : Nat) : Nat := ([9, 3, 1, 9, 9] : List Nat).getD j 0
theorem op_heard : Op_heard 400 INV := by
  intro d hd k σ x1 x2 _ h
  obtain ⟨d, rfl⟩ : ∃ e, d = e + 10 := ⟨d - 10, by omega⟩
  have h0 := h
  obtain ⟨W, f, ⟨c, m, b3, b2⟩, tx, to, ⟨gm, g1, g2, g3, g4⟩, pa, ke⟩ := h
  have a0 : Ag [3210] σ (uI σ 3210 0) := Ag.I Ag.rf rfl
  have hI : INV (k + 1) (uI σ 3210 0) := h0.keep a0 (to.ag a0 rfl rfl) (by decide) (by decide) (by decide) (by decide) (by decide) (by decide) (by decide)
  have no : ev (d + 9) 176 0 [(0, .ref 40), (1, .int x1), (2, .int x2)] [] (mkH σ) = rI σ 0 → ev (d + 10) 101 0 [(0, .ref 50), (1, .int x1), (2, .int x2)] [] (mkH σ) = rI (uI σ 3210 0) (-1) → OpR (INV (k + 1)) (d + 10) 259 101 [(0, .ref 0), (1, .int x1), (2, .int x2)] [(0, .ref 50), (1, .int x1), (2, .int x2)] σ := fun e1 e2 =>
    ⟨σ, uI σ 3210 0, -1, by rw [g_Main_heard_0, c_Main_heard_6 e1, g_Main_heard_9, if_pos rfl]; rfl, e2, rfl, rfl, rfl, hI⟩
  cases hx : ax_ix x1 5 with
  | false =>
    have hm1 : ∀ t : Int32, ev (d + 10) 101 29 [(0, .ref 50), (1, .int x1), (2, .int x2), (3, .int t)] [.int 4, .int 0, .int x1] (mkH (uI σ 3210 0)) = rI (uI σ 3210 0) (-1) := fun t => by
      have e := in_ix (x := x1) (n := 5) (by decide)
      rw [c_Model_heard_29 N_inF, g_Model_heard_32, show inF x1 0 4 = bif ax_ix x1 5 then 1 else 0 from e, hx, cond_false, if_pos rfl]; rfl
    refine no ?_ ?_
    · rw [g_Gossip_hear_0]
      split
      · rfl
      · split
        · rfl
        · split
          · rw [hx]
            rename_i q2 q3
            obtain ⟨j, hj, rfl⟩ := nI_of q2
            have : ¬ j < 5 := fun z => by rw [ixn z (by omega)] at hx; cases hx
            exact absurd q3 (nI_nlt (a := j) (b := 5) (by omega) (by omega))
          · rfl
    · rw [g_Model_heard_0, hm1, hm1, hm1]
      split
      · rfl
      · split
        · rfl
        · rfl
  | true =>
    obtain ⟨j, j1, j2, rfl⟩ := ix_of hx
    have hlo : ([1, 0, 0, 0, 0] : List Int32).getD j 0 = nI (loF j) := by
      match j, j1 with
      | 0, _ => rfl
      | 1, _ => rfl
      | 2, _ => rfl
      | 3, _ => rfl
      | 4, _ => rfl
      | j + 5, hj => exact absurd hj (by omega)
    have hhi : ([9, 3, 1, 9, 9] : List Int32).getD j 0 = nI (hiF j) := by
      match j, j1 with
      | 0, _ => rfl
      | 1, _ => rfl
      | 2, _ => rfl
      | 3, _ => rfl
      | 4, _ => rfl
      | j + 5, hj => exact absurd hj (by omega)
    have hM : ∀ σ : Sg, ev (d + 10) 101 0 [(0, .ref 50), (1, .int (nI j)), (2, .int x2)] [] (mkH σ) = ev (d + 10) 101 46 [(0, .ref 50), (1, .int (nI j)), (2, .int x2), (3, .int (nI (hiF j)))] [.int (nI (hiF j)), .int (nI (loF j)), .int x2] (mkH (uI σ 3210 0)) := by
      intro σ
      have e : ∀ t : Int32, ev (d + 10) 101 29 [(0, .ref 50), (1, .int (nI j)), (2, .int x2), (3, .int t)] [.int 4, .int 0, .int (nI j)] (mkH (uI σ 3210 0)) = (if nI j = 0 then ev (d + 10) 101 46 [(0, .ref 50), (1, .int (nI j)), (2, .int x2), (3, .int t)] [.int t, .int 1, .int x2] (mkH (uI σ 3210 0)) else ev (d + 10) 101 46 [(0, .ref 50), (1, .int (nI j)), (2, .int x2), (3, .int t)] [.int t, .int 0, .int x2] (mkH (uI σ 3210 0))) := fun t => by
        have e := in_ix (x := nI j) (n := 5) (by decide)
        rw [c_Model_heard_29 N_inF, g_Model_heard_32, show inF (nI j) 0 4 = bif ax_ix (nI j) 5 then 1 else 0 from e, hx, cond_true, if_neg (by decide)]
      rw [g_Model_heard_0, e, e, e]
      match j, j1 with
      | 0, _ => rfl
      | 1, _ => rfl
      | 2, _ => rfl
      | 3, _ => rfl
      | 4, _ => rfl
      | j + 5, hj => exact absurd hj (by omega)
    have hC : ev (d + 9) 176 0 [(0, .ref 40), (1, .int (nI j)), (2, .int x2)] [] (mkH σ) = (if (12 : Int32) ≤ nI gm then rI σ 0 else if inF x2 (nI (loF j)) (nI (hiF j)) = 0 then rI σ 0 else (bif ax_ix (nI gm) 12 then rI (uI (uA (uA σ 41 (Int32.toNatClampNeg (nI gm)) (nI j)) 42 (Int32.toNatClampNeg (nI gm)) x2) 2562 (nI (gm + 1))) 1 else none)) := by
      rw [g_Gossip_hear_0, g2]
      by_cases hq : (12 : Int32) ≤ nI gm
      · rw [if_pos hq, if_pos hq]
      · rw [if_neg hq, if_neg hq, if_neg (nI_pos (by omega)), if_pos (show nI j < (5 : Int32) from nI_lt (a := j) (b := 5) j1 (by decide)), hx, cond_true, cond_true, cln (n := j) (by omega), hlo, hhi]
        unfold inF
        by_cases q1 : x2 < nI (loF j)
        · rw [if_pos q1, if_pos q1, if_pos rfl]
        · rw [if_neg q1, if_neg q1]
          by_cases q2 : nI (hiF j) < x2
          · rw [if_neg (Int32.not_le.mpr q2), if_pos q2, if_pos rfl]
          · rw [if_pos (Int32.not_lt.mp q2), if_neg q2, if_neg (by decide), nI_1]
            cases ax_ix (nI gm) 12 <;> rfl
    rcases Nat.lt_or_ge gm 12 with hg | hg
    · have q0 : ¬ (12 : Int32) ≤ nI gm := nI_ge (a := gm) (b := 12) hg (by decide)
      rw [if_neg q0, ixn (k := gm) hg (by decide), cond_true, cln (n := gm) (by omega)] at hC
      by_cases hin : inF x2 (nI (loF j)) (nI (hiF j)) = 0
      · rw [if_pos hin] at hC
        refine no hC ?_
        rw [hM, c_Model_heard_46 N_inF, g_Model_heard_49, if_pos hin]; rfl
      · rw [if_neg hin] at hC
        have q1 : ¬ nI gm = 12 := fun e => q0 (by rw [e]; decide)
        have e36 : ∀ τ : Sg, τ = uI (uA (uA σ 41 gm (nI j)) 42 gm x2) 2562 (nI (gm + 1)) → sI (uI τ 3210 0) 3236 = nI gm := fun τ e => by subst e; exact g3
        refine ⟨uI (uA (uA σ 41 gm (nI j)) 42 gm x2) 2562 (nI (gm + 1)), uI (uA (uA (uI (uI (uA (uA σ 41 gm (nI j)) 42 gm x2) 2562 (nI (gm + 1))) 3210 0) 68 gm (nI j)) 69 gm x2) 3236 (nI (gm + 1)), nI (gm + 1), ?_, ?_, rfl, rfl, rfl, ?_⟩
        · rw [g_Main_heard_0, c_Main_heard_6 hC, g_Main_heard_9, if_neg (by decide)]; rfl
        · have e0 := e36 _ rfl
          generalize uI (uA (uA σ 41 gm (nI j)) 42 gm x2) 2562 (nI (gm + 1)) = τ at e0 ⊢
          rw [hM τ, c_Model_heard_46 N_inF, g_Model_heard_49, if_neg hin, e0, if_neg q1, ixn (k := gm) hg (by decide), cond_true, cond_true, cln (n := gm) (by omega), nI_1]
        · have a : Ag [2562, 10041, 10042, 3210, 10068, 10069, 3236] σ (uI (uA (uA (uI (uI (uA (uA σ 41 gm (nI j)) 42 gm x2) 2562 (nI (gm + 1))) 3210 0) 68 gm (nI j)) 69 gm x2) 3236 (nI (gm + 1))) := Ag.I (Ag.A (Ag.A (Ag.I (Ag.I (Ag.A (Ag.A Ag.rf rfl) rfl) rfl) rfl) rfl) rfl) rfl
          refine ⟨W, f, ⟨c.ag a rfl, m.ag a rfl, b3, b2⟩, tx.ag a rfl, to.ag a rfl rfl, ⟨gm + 1, by omega, rfl, rfl, fun i hi => ?_⟩, pa.ag a rfl, (ke.ag a rfl).mono⟩
          show upd (sA σ 41) gm (nI j) i = upd (sA σ 68) gm (nI j) i ∧ upd (sA σ 42) gm x2 i = upd (sA σ 69) gm x2 i ∧ (upd (sA σ 41) gm (nI j) i = 2 → z1 (upd (sA σ 42) gm x2 i))
          by_cases hi2 : i = gm
          · subst hi2
            rw [upS, upS, upS, upS]
            refine ⟨rfl, rfl, fun e => ?_⟩
            have hj2 : j = 2 := by
              have z := congrArg Int32.toInt e
              rw [nI_toInt (by omega), show (2 : Int32).toInt = 2 from by decide] at z
              omega
            subst hj2
            obtain ⟨n, n1, n2, rfl⟩ := in_n (a := 0) (b := 1) hin rfl rfl (by decide) (by decide)
            rcases Nat.lt_or_ge n 1 with z | z
            · rw [show n = 0 by omega]; exact Or.inl rfl
            · rw [show n = 1 by omega]; exact Or.inr rfl
          · rw [upN hi2, upN hi2, upN hi2, upN hi2]
            exact g4 i (by omega)
    · have q0 : (12 : Int32) ≤ nI gm := show nI 12 ≤ nI gm from nI_le hg (by omega)
      rw [if_pos q0] at hC
      refine no hC ?_
      rw [hM, c_Model_heard_46 N_inF, g_Model_heard_49]
      split
      · rfl
      · rw [show sI (uI σ 3210 0) 3236 = nI gm from g3, if_pos (by rw [show gm = 12 by omega]; rfl)]; rfl
end G1
