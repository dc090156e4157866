/-! the past -/
def PaC (W : Wd) (x m : Nat) (gs : Nat → Nat → Int32) (σ : Sg) : Prop := x < 13 ∧ m ≤ 12 ∧ sI σ 2370 = nI x ∧ sI σ 2371 = nI m ∧ ∀ j, j < m → OK W (gs j) ∧ Lv W (cS (sA σ 38) (44 * ((x + 12 - j) % 13))) (gs j)
def PaM (W : Wd) (m : Nat) (gs : Nat → Nat → Int32) (σ : Sg) : Prop := m ≤ 12 ∧ sI σ 3223 = nI m ∧ ∀ j, j < m → Lv W (fun i => sA σ 60 (44 * (m - 1 - j) + i)) (gs j)
def pushG (f : Nat → Int32) (gs : Nat → Nat → Int32) : Nat → Nat → Int32
  | 0 => f
  | j + 1 => gs j
def kAc : List Nat := [10038, 2370, 2371, 10010, 10011, 10012, 10013, 10014, 10015, 10016, 10017, 10019, 10020, 10021, 10022, 322, 323, 324, 10008, 10009, 10048, 10049, 2817, 20045]
def kAm : List Nat := [10060, 3223, 10051, 3229, 3230, 3209, 20055, 3210, 10059, 40000, 3212, 3213, 3214, 3215, 3220, 10063, 10064, 10065]
section P2
variable {d m x k : Nat} {σ τ : Sg} {W : Wd} {f g : Nat → Int32} {gs : Nat → Nat → Int32} {K : List Nat}
theorem Pa.get (h : Pa W σ) : ∃ x m gs, PaC W x m gs σ ∧ PaM W m gs σ := by
  obtain ⟨x, m, h1, h2, h3, h4, h5, h6⟩ := h
  have h7 : ∀ j, ∃ g : Nat → Int32, j < m → OK W g ∧ Lv W (cS (sA σ 38) (44 * ((x + 12 - j) % 13))) g ∧ Lv W (fun i => sA σ 60 (44 * (m - 1 - j) + i)) g := fun j => by
    by_cases hj : j < m
    · obtain ⟨g, hg⟩ := h6 j hj
      exact ⟨g, fun _ => hg⟩
    · exact ⟨fun _ => 0, fun z => absurd z hj⟩
  refine ⟨x, m, fun j => Classical.choose (h7 j), ⟨h1, h2, h3, h4, fun j hj => ?_⟩, ⟨h2, h5, fun j hj => ?_⟩⟩
  · have := Classical.choose_spec (h7 j) hj
    exact ⟨this.1, this.2.1⟩
  · exact (Classical.choose_spec (h7 j) hj).2.2
theorem PaC.to (c : PaC W x m gs σ) (h : PaM W m gs σ) : Pa W σ := ⟨x, m, c.1, c.2.1, c.2.2.1, c.2.2.2.1, h.2.1, fun j hj => ⟨gs j, (c.2.2.2.2 j hj).1, (c.2.2.2.2 j hj).2, h.2.2 j hj⟩⟩
theorem PaC.ag (h : PaC W x m gs σ) (g : Ag K σ τ) (hk : dj K [2370, 2371, 10038] = true) : PaC W x m gs τ := by
  have a0 := g.1 2370 (dj_m hk (by decide))
  have a1 := g.1 2371 (dj_m hk (by decide))
  have a2 := g.2.1 38 (dj_m hk (by decide))
  unfold PaC; rw [a0, a1, a2]; exact h
theorem PaM.ag (h : PaM W m gs σ) (g : Ag K σ τ) (hk : dj K [3223, 10060] = true) : PaM W m gs τ := by
  have a0 := g.1 3223 (dj_m hk (by decide))
  have a1 := g.2.1 60 (dj_m hk (by decide))
  unfold PaM; rw [a0, a1]; exact h
theorem Ke.ag38 (hW : WO W) (h : Ke W k σ) (g : Ag K σ τ) (hk : dj K [3239, 10039, 10071, 10072, 10073] = true) (h38 : ∀ i, 572 ≤ i → sA τ 38 i = sA σ 38 i) : Ke W k τ := by
  have a0 := g.1 3239 (dj_m hk (by decide))
  have a2 := g.2.1 39 (dj_m hk (by decide))
  have a3 := g.2.1 71 (dj_m hk (by decide))
  have a4 := g.2.1 72 (dj_m hk (by decide))
  have a5 := g.2.1 73 (dj_m hk (by decide))
  unfold Ke; rw [a0, a2, a3, a4, a5]
  obtain ⟨c, c1, c2, c3⟩ := h
  refine ⟨c, c1, c2, fun i hi => ?_⟩
  obtain ⟨e1, e2, e3⟩ := c3 i hi
  refine ⟨e1, e2, ?_⟩
  rcases e3 with e | ⟨e4, e5, e6, g, e7, e8, e9⟩
  · exact Or.inl e
  · exact Or.inr ⟨e4, e5, e6, g, e7, Lv.of44 hW (fun j hj => cS_congr (fun q q1 _ => h38 q (by omega)) hj) e8, e9⟩
theorem CWo.fr (h : CWo W f σ) (a : Ag kAc σ τ) (ok : OK W g) (fr : FR W false τ g) : CWo W g τ :=
  ⟨h.1, ok, h.2.2.1.ag a rfl, h.2.2.2.1.ag a rfl, fr, by rw [a.2.2.2.1 0 rfl]; exact h.2.2.2.2.2.ag a (by cases sB σ 0 <;> rfl)⟩
theorem MWo.fr (h : MWo W f σ) (a : Ag kAm σ τ) (ok : OK W g) (lv : Lv W (sA τ 51) g) : MWo W g τ :=
  ⟨h.1, ok, h.2.2.1.ag a rfl, lv, h.2.2.2.2.ag a rfl⟩
theorem mul44 (n : Nat) : nI n * (44 : Int32) = nI (44 * n) := by rw [Nat.mul_comm]; exact (Int32.ofNat_mul n 44).symm
theorem mul44' (n : Nat) : (44 : Int32) * nI n = nI (44 * n) := (Int32.ofNat_mul 44 n).symm
theorem C_draft (h : CWo W f σ) (hp : PaC W x m gs σ) : RnV (ev (d + 2) 181 0 [(0, .ref 37), (1, .ref 5)] [] (mkH σ)) (fun τ => Ag [10038] σ τ ∧ PaC W x m gs τ ∧ Lv W (cS (sA τ 38) (44 * x)) f ∧ ∀ i, 572 ≤ i → sA τ 38 i = sA σ 38 i) := by
  obtain ⟨p1, p2, p3, p4, p5⟩ := hp
  obtain ⟨τ, k1, k2, k3, k4⟩ := K_save (d := d) (o := 44 * x) h (by omega)
  rw [g_Past_draft_0, p3, mul44, c_Past_draft_12 k1, g_Past_draft_15]
  refine RnV.mk ⟨k2, ⟨p1, p2, (k2.1 2370 rfl).trans p3, (k2.1 2371 rfl).trans p4, fun j hj => ⟨(p5 j hj).1, ?_⟩⟩, k3, fun i hi => k4 i (by omega)⟩
  have hs : (x + 12 - j) % 13 ≠ x := by omega
  have h5 := (p5 j hj).2
  generalize (x + 12 - j) % 13 = s at hs h5 ⊢
  exact Lv.of44 h.1 (fun i hi => cS_congr (fun q q1 q2 => k4 q (by omega)) hi) h5
theorem C_enter (hp : PaC W x m gs σ) (ok : OK W f) (hl : Lv W (cS (sA σ 38) (44 * x)) f) : RnV (ev (d + 1) 182 0 [(0, .ref 37)] [] (mkH σ)) (fun τ => Ag [2370, 2371] σ τ ∧ PaC W ((x + 1) % 13) (min (m + 1) 12) (pushG f gs) τ) := by
  obtain ⟨p1, p2, p3, p4, p5⟩ := hp
  rw [g_Past_enterDraft_0]
  refine RnV.mk ⟨Ag.I (Ag.I Ag.rf rfl) rfl, by omega, by omega, ?_, ?_, fun j hj => ?_⟩
  · show sI σ 2370 + 1 - (sI σ 2370 + 1) / 13 * 13 = _
    rw [p3, nI_1]; exact mod_nI (a := x + 1) (k := 13) (by omega) (by decide)
  · show (if sI σ 2371 + 1 < 12 then sI σ 2371 + 1 else 12) = _
    rw [p4, nI_1]
    rcases Nat.lt_or_ge (m + 1) 12 with z | z
    · rw [if_pos (show nI (m + 1) < (12 : Int32) from nI_lt (a := m + 1) (b := 12) z (by decide)), Nat.min_eq_left (by omega)]
    · rw [if_neg (show ¬ nI (m + 1) < (12 : Int32) from nI_nlt (a := m + 1) (b := 12) z (by omega)), Nat.min_eq_right (by omega)]; rfl
  · show OK W (pushG f gs j) ∧ Lv W (cS (sA σ 38) (44 * (((x + 1) % 13 + 12 - j) % 13))) (pushG f gs j)
    cases j with
    | zero =>
      rw [show ((x + 1) % 13 + 12 - 0) % 13 = x by omega]
      exact ⟨ok, hl⟩
    | succ j =>
      rw [show ((x + 1) % 13 + 12 - (j + 1)) % 13 = (x + 12 - j) % 13 by omega]
      exact p5 j (by omega)
theorem N_remT {n : Nat} (hW : WO W) (hl : Lv W (sA σ 51) f) (hn : n ≤ 11) (h1 : sI σ 3223 = nI n) (h2 : ∀ j, j < n → Lv W (fun i => sA σ 60 (44 * (n - 1 - j) + i)) (gs j)) : RnV (ev (d + 2) 56 61 [(0, .ref 50), (1, .ref 51)] [.int (nI (44 * n)), .ref 60, .ref 51] (mkH σ)) (fun τ => Ag [10060, 3223] σ τ ∧ PaM W (n + 1) (pushG f gs) τ) := by
  obtain ⟨τ, k1, k2, k3, k4⟩ := N_lay_nu (d := d) (σ := σ) (o := 44 * n) (by omega)
  rw [c_Model_remember_n_61 k1, g_Model_remember_n_64]
  refine RnV.mk ⟨(k2.wk rfl).tr (Ag.I Ag.rf rfl), by omega, ?_, fun j hj => ?_⟩
  · show sI τ 3223 + 1 = _
    rw [k2.1 3223 rfl, h1, nI_1]
  · show Lv W (fun i => sA τ 60 (44 * (n + 1 - 1 - j) + i)) (pushG f gs j)
    cases j with
    | zero =>
      exact Lv.of44 hW (fun i hi => by show sA τ 60 (44 * (n + 1 - 1 - 0) + i) = _; rw [show n + 1 - 1 - 0 = n by omega]; exact k3 i hi) hl
    | succ j =>
      exact Lv.of44 hW (fun i hi => by show sA τ 60 (44 * (n + 1 - 1 - (j + 1)) + i) = _; rw [show n + 1 - 1 - (j + 1) = n - 1 - j by omega]; exact k4 _ (by omega)) (h2 j (by omega))
theorem N_remember (h : MWo W f σ) (hp : PaM W m gs σ) : RnV (ev (d + 2) 56 0 [(0, .ref 50), (1, .ref 51)] [] (mkH σ)) (fun τ => Ag [10060, 3223] σ τ ∧ PaM W (min (m + 1) 12) (pushG f gs) τ) := by
  obtain ⟨p1, p2, p3⟩ := hp
  rw [g_Model_remember_n_0, p2]
  rcases Nat.lt_or_ge m 12 with z | z
  · rw [if_neg (fun e => absurd (show nI m < (12 : Int32) from nI_lt (a := m) (b := 12) z (by decide)) (by rw [e]; decide)), mul44', Nat.min_eq_left (by omega)]
    exact N_remT h.1 h.2.2.2.1 (by omega) p2 p3
  · have : m = 12 := by omega
    subst this
    rw [if_pos (show nI 12 = (12 : Int32) from rfl), Nat.min_eq_right (by omega)]
    refine lpG (α := Sg) (n := 484) (P := fun k ρ => Ag [10060, 3223] σ ρ ∧ sI ρ 3223 = nI 12 ∧ (∀ i, i < k → sA ρ 60 i = sA σ 60 (i + 44)) ∧ ∀ i, k ≤ i → sA ρ 60 i = sA σ 60 i)
      (f := fun k ρ => ev (d + 2) 56 11 [(0, .ref 50), (1, .ref 51), (2, .int (nI k))] [] (mkH ρ)) (Q := fun o => RnV o _) ?_ ?_ 484 0 σ (by omega) ⟨Ag.rf, p2, fun i hi => absurd hi (Nat.not_lt_zero i), fun i hi => rfl⟩
    · rintro i ρ hi ⟨q1, q2, q3, q4⟩ nx
      show RnV (ev (d + 2) 56 11 [(0, .ref 50), (1, .ref 51), (2, .int (nI i))] [] (mkH ρ)) _
      rw [g_Model_remember_n_11, if_neg (show ¬ (484 : Int32) ≤ nI i from nI_ge (a := i) (b := 484) hi (by decide)), show nI i + (44 : Int32) = nI (i + 44) from nI_add i 44, ixn (k := i + 44) (by omega) (by decide), cond_true, ixn (k := i) (by omega) (by decide), cond_true, cln (n := i) (by omega), cln (n := i + 44) (by omega), nI_1, q4 (i + 44) (by omega)]
      refine nx _ ⟨Ag.A q1 rfl, q2, fun c hc => ?_, fun c hc => ?_⟩
      · show upd (sA ρ 60) i _ c = _
        by_cases e : c = i
        · subst e; rw [upS]
        · rw [upN e]; exact q3 c (by omega)
      · show upd (sA ρ 60) i _ c = _
        rw [upN (by omega)]; exact q4 c (by omega)
    · rintro ρ ⟨q1, q2, q3, q4⟩
      show RnV (ev (d + 2) 56 11 [(0, .ref 50), (1, .ref 51), (2, .int (nI 484))] [] (mkH ρ)) _
      rw [g_Model_remember_n_11, if_pos (by decide), q2, show nI 12 - (1 : Int32) = nI 11 from by decide, mul44']
      have hl : Lv W (sA (uI ρ 3223 (nI 11)) 51) f := by
        show Lv W (sA ρ 51) f
        rw [q1.2.1 51 rfl]; exact h.2.2.2.1
      refine (N_remT (gs := gs) h.1 hl (by omega) I_S (fun j hj => ?_)).im (fun τ ⟨k1, k2⟩ => ⟨(q1.tr (Ag.I Ag.rf rfl)).tr k1, k2⟩)
      refine Lv.of44 h.1 (fun i hi => ?_) (p3 j (by omega))
      show sA ρ 60 (44 * (11 - 1 - j) + i) = sA σ 60 (44 * (12 - 1 - j) + i)
      rw [q3 _ (by omega), show 44 * (11 - 1 - j) + i + 44 = 44 * (12 - 1 - j) + i by omega]
/-- an act: its answer, what there is then, whether it is remembered, what it tells -/
theorem act_op {jc jm : Nat} {Lc Lm : ax_L} (spec : Wd → (Nat → Int32) → Int32 × (Nat → Int32) × Bool × Option (List Int64)) (hl : ∀ W f, lenOk (spec W f).2.2.2)
    (hc : ∀ d σ W f x m gs, 400 ≤ d → CWo W f σ → PaC W x m gs σ → RnI (ev d jc 0 Lc [] (mkH σ)) (fun τ y => Ag kAc σ τ ∧ y = (spec W f).1 ∧ CWo W (spec W f).2.1 τ ∧ (∀ i, 572 ≤ i → sA τ 38 i = sA σ 38 i) ∧ (∃ x', PaC W x' (bif (spec W f).2.2.1 then min (m + 1) 12 else m) (bif (spec W f).2.2.1 then pushG f gs else gs) τ) ∧ TDx σ τ (spec W f).2.2.2))
    (hm : ∀ d σ W f m gs, 400 ≤ d → MWo W f σ → PaM W m gs σ → RnI (ev d jm 0 Lm [] (mkH σ)) (fun τ y => Ag kAm σ τ ∧ y = (spec W f).1 ∧ MWo W (spec W f).2.1 τ ∧ PaM W (bif (spec W f).2.2.1 then min (m + 1) 12 else m) (bif (spec W f).2.2.1 then pushG f gs else gs) τ ∧ MDx σ τ (spec W f).2.2.2))
    {d : Nat} (hd : 400 ≤ d) (h : INV k σ) : OpR (INV (k + 1)) d jc jm Lc Lm σ := by
  obtain ⟨W, f, ⟨a1, a2, a3, a4⟩, a5, a6, a7, a8, a9⟩ := h
  obtain ⟨x, m, gs, p1, p2⟩ := a8.get
  obtain ⟨σ1, r, c1, c2, c3, c4, c5, ⟨x', c6⟩, c7⟩ := hc d σ W f x m gs hd a1 p1
  obtain ⟨σ2, r2, m1, m2, m3, m4, m5, m6⟩ := hm d σ1 W f m gs hd (a2.ag c2 (by decide)) (p2.ag c2 (by decide))
  have e : r2 = r := m3.trans c3.symm
  subst e
  refine ⟨σ1, σ2, r2, c1, m1, c2.2.2.2.2.2.2, m2.2.2.2.2.2.2.trans c2.2.2.2.2.2.2, m2.2.2.2.2.2.1.trans c2.2.2.2.2.2.1, ?_⟩
  have g : Ag (kAc ++ kAm) σ σ2 := (c2.wk (by decide)).tr (m2.wk (by decide))
  exact ⟨W, (spec W f).2.1, ⟨c4.ag m2 (by decide), m4, by rw [g.2.2.2.1 3 (by decide)]; exact a3, by rw [g.2.2.2.1 2 (by decide), g.2.2.2.1 0 (by decide)]; exact a4⟩, a5.ag g (by decide), a6.x c7 m6 (hl W f) ⟨c2.1 3209 rfl, c2.2.2.1 55 rfl⟩ ⟨m2.1 2817 rfl, m2.2.2.1 45 rfl⟩, a7.ag g (by decide), (c6.ag m2 (by decide)).to m5, (a9.ag38 a1.1 g (by decide) (fun i hi => by rw [m2.2.1 38 (by decide)]; exact c5 i hi)).mono⟩
theorem C_ent (hp : PaC W x m gs σ) (ok : OK W f) (hl : Lv W (cS (sA σ 38) (44 * x)) f) {r : Int32} : RnI (ev (d + 2) 233 0 [(0, .ref 0), (1, .int r)] [] (mkH σ)) (fun τ y => Ag [2370, 2371] σ τ ∧ y = r ∧ ∃ x', PaC W x' (bif decide (0 ≤ r) then min (m + 1) 12 else m) (bif decide (0 ≤ r) then pushG f gs else gs) τ) := by
  rw [g_Main_entered_0]
  by_cases hr : r < 0
  · rw [if_pos hr, decide_eq_false (Int32.not_le.mpr hr)]
    exact RnI.mk ⟨Ag.rf, rfl, x, hp⟩
  · rw [if_neg hr, decide_eq_true (Int32.not_lt.mp hr)]
    obtain ⟨τ, k1, k2, k3⟩ := C_enter (d := d) hp ok hl
    rw [c_Main_entered_8 k1, g_Main_entered_11]
    exact RnI.mk ⟨k2, rfl, _, k3⟩
theorem bc_pos {n : Nat} (hn : n ≤ 9) (P : Nat → Bool) : (0 : Int32) ≤ bcF (bitsF n P) := by
  obtain ⟨m, m1, m2⟩ := bits_nat hn P
  obtain ⟨j, j1, j2⟩ := bc_n m1
  rw [m2, j2]
  exact show nI 0 ≤ nI j from nI_le (Nat.zero_le j) (by omega)
theorem rc_cases {x y : Int32} : rcF W f x y = 0 ∧ ax_ix x (wp W) = true ∧ ax_ix y (wb W) = true ∨ ¬ rcF W f x y = 0 ∧ ¬ (0 : Int32) ≤ rcF W f x y := by
  unfold rcF
  cases ax_ix x (wp W) <;> cases ax_ix y (wb W)
  · exact Or.inr ⟨by rw [Bool.and_self, cond_false]; decide, by rw [Bool.and_self, cond_false]; decide⟩
  · exact Or.inr ⟨by rw [Bool.false_and, cond_false]; decide, by rw [Bool.false_and, cond_false]; decide⟩
  · exact Or.inr ⟨by rw [Bool.and_false, cond_false]; decide, by rw [Bool.and_false, cond_false]; decide⟩
  · rw [Bool.and_self, cond_true]
    split
    · exact Or.inr ⟨by decide, by decide⟩
    · split
      · exact Or.inl ⟨rfl, rfl, rfl⟩
      · exact Or.inr ⟨by decide, by decide⟩
def kR : List Nat := [10010, 10011, 10012, 10013, 10019, 10020, 10021]
theorem C_fin {u : Nat} {τ' : Sg} (h : CWo W f σ) (k2 : Ag [10038] σ τ) (k3 : PaC W u m gs τ) (k4 : Lv W (cS (sA τ 38) (44 * u)) f) (k5 : ∀ i, 572 ≤ i → sA τ 38 i = sA σ 38 i) (a : Ag kR τ τ') (ok : OK W g) (fr : FR W false τ' g) {r : Int32} :
    RnI (ev (d + 2) 233 0 [(0, .ref 0), (1, .int r)] [] (mkH τ')) (fun ρ y => Ag kAc σ ρ ∧ y = r ∧ CWo W g ρ ∧ (∀ i, 572 ≤ i → sA ρ 38 i = sA σ 38 i) ∧ (∃ x', PaC W x' (bif decide (0 ≤ r) then min (m + 1) 12 else m) (bif decide (0 ≤ r) then pushG f gs else gs) ρ) ∧ TDx σ ρ none) := by
  refine (C_ent (f := f) (k3.ag a rfl) h.2.1 (by rw [a.2.1 38 rfl]; exact k4)).im (fun ρ y ⟨e1, e2, e3⟩ => ?_)
  have aa : Ag kAc σ ρ := (k2.wk rfl).tr ((a.wk rfl).tr (e1.wk rfl))
  refine ⟨aa, e2, h.fr aa ok (fr.ag e1 rfl), fun i hi => ?_, e3, ?_, ?_⟩
  · rw [e1.2.1 38 rfl, a.2.1 38 rfl]; exact k5 i hi
  · rw [e1.1 2817 rfl, a.1 2817 rfl, k2.1 2817 rfl]
  · rw [e1.2.2.1 45 rfl, a.2.2.1 45 rfl, k2.2.2.1 45 rfl]
def acS (q : Wd → (Nat → Int32) → Int32 × (Nat → Int32)) (W : Wd) (f : Nat → Int32) : Int32 × (Nat → Int32) × Bool × Option (List Int64) := ((q W f).1, (q W f).2, decide (0 ≤ (q W f).1), none)
def chQ (x y : Int32) (W : Wd) (f : Nat → Int32) : Int32 × (Nat → Int32) :=
  if rcF W f x y = 0 then (bcF (abF W (upd f (16 + Int32.toNatClampNeg x) y) y), upd f (16 + Int32.toNatClampNeg x) y) else (rcF W f x y, f)
theorem op_changes : Op_changes 400 INV := by
  intro d hd k σ x y _ h
  refine act_op (acS (chQ x y)) (fun W f => trivial) ?_ ?_ hd h
  · intro d σ W f u m gs hd h hp
    obtain ⟨d, rfl⟩ : ∃ e, d = e + 10 := ⟨d - 10, by omega⟩
    have w9 := h.1.2.1
    obtain ⟨τ, k1, k2, k3, k4, k5⟩ := C_draft (d := d + 7) h hp
    have ht := h.ag k2 rfl
    have hF : ev (d + 9) 164 0 [(0, .ref 5), (1, .int x), (2, .int y)] [] (mkH τ) = if rcF W f x y = 0 then rI (uA τ 19 (Int32.toNatClampNeg x) y) (bcF (abF W (upd f (16 + Int32.toNatClampNeg x) y) y)) else rI τ (rcF W f x y) := F_change (d := d + 6) (w := false) ht.1 ht.2.1 ht.2.2.2.2.1 ht.2.2.1
    rw [g_Main_changes_0, c_Main_changes_8 k1, g_Main_changes_11]
    unfold acS chQ
    rcases rc_cases (W := W) (f := f) (x := x) (y := y) with ⟨r0, r1, r2⟩ | ⟨r0, r1⟩
    · rw [if_pos r0] at hF ⊢
      obtain ⟨p, p1, p2, rfl⟩ := ix_of r1
      rw [cln (n := p) (by omega)] at hF ⊢
      obtain ⟨ρ, z, e1, e2⟩ := C_fin (d := d + 7) (τ' := uA τ 19 p y) h k2 k3 k4 k5 (Ag.A Ag.rf rfl) (h.2.1.boat (k := p) h.1 (by omega) r2) (FR.boat (w := false) (k := p) ht.1 ht.2.2.2.2.1 (by omega)) (r := bcF (abF W (upd f (16 + p) y) y))
      rw [c_Main_changes_18 hF, c_Main_changes_21 e1, g_Main_changes_24]
      exact RnI.mk e2
    · rw [if_neg r0] at hF ⊢
      obtain ⟨ρ, z, e1, e2⟩ := C_fin (d := d + 7) h k2 k3 k4 k5 Ag.rf h.2.1 ht.2.2.2.2.1 (r := rcF W f x y)
      rw [c_Main_changes_18 hF, c_Main_changes_21 e1, g_Main_changes_24]
      exact RnI.mk e2
  · intro d σ W f m gs hd h hp
    obtain ⟨d, rfl⟩ : ∃ e, d = e + 10 := ⟨d - 10, by omega⟩
    have w9 := h.1.2.1
    have a0 : Ag kAm σ (uI σ 3210 0) := Ag.I Ag.rf rfl
    have h1 := h.nu (n := 3210) (x := 0) rfl
    have hp1 : PaM W m gs (uI σ 3210 0) := hp
    rw [g_Model_changes_0, c_Model_changes_12 (N_refC (v := false) (d := d + 6) h1.1 h1.2.2.1 h1.2.1 h1.2.2.2.1), g_Model_changes_15]
    unfold acS chQ
    rcases rc_cases (W := W) (f := f) (x := x) (y := y) with ⟨r0, r1, r2⟩ | ⟨r0, r1⟩
    · rw [if_pos r0, r0, if_pos (by decide)]
      obtain ⟨p, p1, p2, rfl⟩ := ix_of r1
      obtain ⟨τ, k1, k2, k3⟩ := N_remember (d := d + 7) h1 hp1
      have h2 := h1.ag k2 rfl
      have a1 : Ag kAm σ (uA τ 51 (16 + p) y) := a0.tr ((k2.wk rfl).tr (Ag.A Ag.rf rfl))
      have h3 : MWo W (upd f (16 + p) y) (uA τ 51 (16 + p) y) := h.fr a1 (h.2.1.boat h.1 (by omega) r2) (Lv.up h2.2.2.2.1)
      rw [c_Model_changes_27 k1, g_Model_changes_30, add16, ixn (k := 16 + p) (by omega) (by decide), cond_true, cln (n := 16 + p) (by omega), cln (n := p) (by omega), c_Model_changes_46 (N_aboard (v := false) h3.1 h3.2.2.1 h3.2.2.2.1), c_Model_changes_49 bc_ev, g_Model_changes_52]
      have pos : decide ((0 : Int32) ≤ bcF (abF W (upd f (16 + p) y) y)) = true := decide_eq_true (bc_pos w9 _)
      refine RnI.mk ⟨a1, rfl, h3, ?_, ⟨(k2.1 3209 rfl).trans rfl, (k2.2.2.1 55 rfl).trans rfl⟩⟩
      dsimp only
      rw [pos]; exact k3
    · rw [if_neg r0, if_neg r1]
      refine RnI.mk ⟨a0, rfl, h1, ?_, ⟨rfl, rfl⟩⟩
      dsimp only
      rw [decide_eq_false r1]; exact hp1
def wkQ (x : Int32) (W : Wd) (f : Nat → Int32) : Int32 × (Nat → Int32) :=
  bif ax_ix x (wp W) then (bcF (awF W (upd f (25 + Int32.toNatClampNeg x) (1 - f (25 + Int32.toNatClampNeg x)))), upd f (25 + Int32.toNatClampNeg x) (1 - f (25 + Int32.toNatClampNeg x))) else (-1, f)
theorem op_wakes : Op_wakes 400 INV := by
  intro d hd k σ x _ h
  refine act_op (acS (wkQ x)) (fun W f => trivial) ?_ ?_ hd h
  · intro d σ W f u m gs hd h hp
    obtain ⟨d, rfl⟩ : ∃ e, d = e + 10 := ⟨d - 10, by omega⟩
    have w9 := h.1.2.1
    obtain ⟨τ, k1, k2, k3, k4, k5⟩ := C_draft (d := d + 7) h hp
    have ht := h.ag k2 rfl
    have hF : ev (d + 9) 165 0 [(0, .ref 5), (1, .int x)] [] (mkH τ) = bif ax_ix x (wp W) then rI (uA τ 20 (Int32.toNatClampNeg x) (1 - f (25 + Int32.toNatClampNeg x))) (bcF (awF W (upd f (25 + Int32.toNatClampNeg x) (1 - f (25 + Int32.toNatClampNeg x))))) else rI τ (-1) := F_wake (d := d + 7) (w := false) ht.1 ht.2.1 ht.2.2.2.2.1 ht.2.2.1
    rw [g_Main_wakes_0, c_Main_wakes_8 k1, g_Main_wakes_11]
    unfold acS wkQ
    cases hx : ax_ix x (wp W) with
    | true =>
      rw [hx, cond_true] at hF
      rw [cond_true]
      obtain ⟨p, p1, p2, rfl⟩ := ix_of hx
      rw [cln (n := p) (by omega)] at hF ⊢
      obtain ⟨ρ, z, e1, e2⟩ := C_fin (d := d + 7) (τ' := uA τ 20 p (1 - f (25 + p))) h k2 k3 k4 k5 (Ag.A Ag.rf rfl) (h.2.1.awak (k := p) h.1 (by omega) (z1_sub (h.2.1.2 p p1).2.1)) (FR.awak (w := false) (k := p) ht.1 ht.2.2.2.2.1 (by omega)) (r := bcF (awF W (upd f (25 + p) (1 - f (25 + p)))))
      rw [c_Main_wakes_17 hF, c_Main_wakes_20 e1, g_Main_wakes_23]
      exact RnI.mk e2
    | false =>
      rw [hx, cond_false] at hF
      rw [cond_false]
      obtain ⟨ρ, z, e1, e2⟩ := C_fin (d := d + 7) h k2 k3 k4 k5 Ag.rf h.2.1 ht.2.2.2.2.1 (r := -1)
      rw [c_Main_wakes_17 hF, c_Main_wakes_20 e1, g_Main_wakes_23]
      exact RnI.mk e2
  · intro d σ W f m gs hd h hp
    obtain ⟨d, rfl⟩ : ∃ e, d = e + 10 := ⟨d - 10, by omega⟩
    have w9 := h.1.2.1
    have a0 : Ag kAm σ (uI σ 3210 0) := Ag.I Ag.rf rfl
    have h1 := h.nu (n := 3210) (x := 0) rfl
    have hp1 : PaM W m gs (uI σ 3210 0) := hp
    rw [g_Model_wakes_0, c_Model_wakes_7 (N_isM (d := d + 7) h1.1 h1.2.2.1), g_Model_wakes_10]
    unfold acS wkQ
    cases hx : ax_ix x (wp W) with
    | true =>
      rw [cond_true, cond_true, if_neg (by decide)]
      obtain ⟨p, p1, p2, rfl⟩ := ix_of hx
      obtain ⟨τ, k1, k2, k3⟩ := N_remember (d := d + 7) h1 hp1
      have h2 := h1.ag k2 rfl
      have e25 : sA τ 51 (25 + p) = f (25 + p) := (h2.2.2.2.1.2.1 p p1).2.1
      have a1 : Ag kAm σ (uA τ 51 (25 + p) (1 - f (25 + p))) := a0.tr ((k2.wk rfl).tr (Ag.A Ag.rf rfl))
      have h3 : MWo W (upd f (25 + p) (1 - f (25 + p))) (uA τ 51 (25 + p) (1 - f (25 + p))) := h.fr a1 (h.2.1.awak h.1 (by omega) (z1_sub (h.2.1.2 p p1).2.1)) (Lv.up h2.2.2.2.1)
      rw [c_Model_wakes_20 k1, g_Model_wakes_23, add25, ixn (k := 25 + p) (by omega) (by decide), cond_true, cond_true, cln (n := 25 + p) (by omega), cln (n := p) (by omega), e25, c_Model_wakes_48 (N_awake (v := false) h3.1 h3.2.2.1 h3.2.1 h3.2.2.2.1), c_Model_wakes_51 bc_ev, g_Model_wakes_54]
      have pos : decide ((0 : Int32) ≤ bcF (awF W (upd f (25 + p) (1 - f (25 + p))))) = true := decide_eq_true (bc_pos w9 _)
      refine RnI.mk ⟨a1, rfl, h3, ?_, ⟨(k2.1 3209 rfl).trans rfl, (k2.2.2.1 55 rfl).trans rfl⟩⟩
      dsimp only
      rw [pos]; exact k3
    | false =>
      rw [cond_false, cond_false, if_pos rfl]
      exact RnI.mk ⟨a0, rfl, h1, hp1, ⟨rfl, rfl⟩⟩
def ldQ (x y : Int32) (W : Wd) (f : Nat → Int32) : Int32 × (Nat → Int32) :=
  bif ax_ix x (wb W) && ax_ix y 10 then ((if f (8 + Int32.toNatClampNeg x) = y then -2 else 10 + f (8 + Int32.toNatClampNeg x)), upd f (8 + Int32.toNatClampNeg x) y) else (-1, f)
theorem upd_id {g : Nat → Int32} {k : Nat} {z : Int32} (h : g k = z) : upd g k z = g := by
  funext i
  by_cases c : i = k
  · subst c; rw [upS, h]
  · rw [upN c]
theorem n9_of {z : Int32} (h : ax_ix z 10 = true) : n9 z := by
  obtain ⟨j, j1, j2, rfl⟩ := ix_of h
  exact ⟨j, by omega, rfl⟩
theorem n9_pos {z : Int32} (h : n9 z) : (0 : Int32) ≤ 10 + z := by
  obtain ⟨j, j1, rfl⟩ := h
  rw [show (10 : Int32) + nI j = nI (10 + j) from nI_add 10 j]
  exact show nI 0 ≤ nI (10 + j) from nI_le (Nat.zero_le _) (by omega)
theorem N_refL (h : MWo W f σ) {x y : Int32} : ev (d + 3) 67 0 [(0, .ref 50), (1, .int x), (2, .int y)] [] (mkH σ) = rI σ (rlF W f x y) := by
  have w4 := h.1.1
  rw [g_Model_refusesLoad_0, c_Model_refusesLoad_2 (N_isB h.1 h.2.2.1), g_Model_refusesLoad_5]
  unfold rlF
  cases hx : ax_ix x (wb W) with
  | false => rw [cond_false, if_pos rfl, Bool.false_and, cond_false]; rfl
  | true =>
    have e : inF y 0 9 = bif ax_ix y 10 then 1 else 0 := in_ix (n := 10) (by decide)
    rw [cond_true, if_neg (by decide), c_Model_refusesLoad_12 N_inF, g_Model_refusesLoad_15, e, Bool.true_and]
    cases hy : ax_ix y 10 with
    | false => rw [cond_false, if_pos rfl, cond_false]; rfl
    | true =>
      obtain ⟨b, b1, b2, rfl⟩ := ix_of hx
      rw [cond_true, if_neg (by decide), cond_true, add8, ixn (k := 8 + b) (by omega) (by decide), cond_true, cln (n := 8 + b) (by omega), cln (n := b) (by omega), (h.2.2.2.1.1 b b1).2.2.1]
      split <;> rfl
theorem op_loads : Op_loads 400 INV := by
  intro d hd k σ x y _ h
  refine act_op (acS (ldQ x y)) (fun W f => trivial) ?_ ?_ hd h
  · intro d σ W f u m gs hd h hp
    obtain ⟨d, rfl⟩ : ∃ e, d = e + 10 := ⟨d - 10, by omega⟩
    have w4 := h.1.1
    obtain ⟨τ, k1, k2, k3, k4, k5⟩ := C_draft (d := d + 7) h hp
    have ht := h.ag k2 rfl
    have hF : ev (d + 9) 166 0 [(0, .ref 5), (1, .int x), (2, .int y)] [] (mkH τ) = bif ax_ix x (wb W) && ax_ix y 10 then rI (uA τ 12 (Int32.toNatClampNeg x) y) (if f (8 + Int32.toNatClampNeg x) = y then -2 else 10 + f (8 + Int32.toNatClampNeg x)) else rI τ (-1) := F_load (d := d + 7) (w := false) ht.1 ht.2.2.2.2.1 ht.2.2.1
    rw [g_Main_loads_0, c_Main_loads_8 k1, g_Main_loads_11]
    unfold acS ldQ
    cases hx : ax_ix x (wb W) && ax_ix y 10 with
    | true =>
      rw [hx, cond_true] at hF
      rw [cond_true]
      rw [Bool.and_eq_true] at hx
      obtain ⟨b, b1, b2, rfl⟩ := ix_of hx.1
      rw [cln (n := b) (by omega)] at hF ⊢
      obtain ⟨ρ, z, e1, e2⟩ := C_fin (d := d + 7) (τ' := uA τ 12 b y) h k2 k3 k4 k5 (Ag.A Ag.rf rfl) (h.2.1.carg (k := b) h.1 (by omega) (n9_of hx.2)) (FR.carg (w := false) (x := y) ht.1 ht.2.2.2.2.1 (k := b) (by omega)) (r := if f (8 + b) = y then -2 else 10 + f (8 + b))
      rw [c_Main_loads_18 hF, c_Main_loads_21 e1, g_Main_loads_24]
      exact RnI.mk e2
    | false =>
      rw [hx, cond_false] at hF
      rw [cond_false]
      obtain ⟨ρ, z, e1, e2⟩ := C_fin (d := d + 7) h k2 k3 k4 k5 Ag.rf h.2.1 ht.2.2.2.2.1 (r := -1)
      rw [c_Main_loads_18 hF, c_Main_loads_21 e1, g_Main_loads_24]
      exact RnI.mk e2
  · intro d σ W f m gs hd h hp
    obtain ⟨d, rfl⟩ : ∃ e, d = e + 10 := ⟨d - 10, by omega⟩
    have w4 := h.1.1
    have a0 : Ag kAm σ (uI σ 3210 0) := Ag.I Ag.rf rfl
    have h1 := h.nu (n := 3210) (x := 0) rfl
    have hp1 : PaM W m gs (uI σ 3210 0) := hp
    rw [g_Model_loads_0, c_Model_loads_8 (N_refL (d := d + 6) h1), g_Model_loads_11]
    unfold acS ldQ rlF
    cases hx : ax_ix x (wb W) && ax_ix y 10 with
    | true =>
      rw [cond_true, cond_true]
      rw [Bool.and_eq_true] at hx
      obtain ⟨b, b1, b2, rfl⟩ := ix_of hx.1
      rw [cln (n := b) (by omega)]
      by_cases hq : f (8 + b) = y
      · rw [if_pos hq, if_neg (by decide), if_pos hq, upd_id hq]
        exact RnI.mk ⟨a0, rfl, h1, hp1, ⟨rfl, rfl⟩⟩
      · rw [if_neg hq, if_pos (by decide), if_neg hq]
        obtain ⟨τ, k1, k2, k3⟩ := N_remember (d := d + 7) h1 hp1
        have h2 := h1.ag k2 rfl
        have e8 : sA τ 51 (8 + b) = f (8 + b) := (h2.2.2.2.1.1 b b1).2.2.1
        have a1 : Ag kAm σ (uA τ 51 (8 + b) y) := a0.tr ((k2.wk rfl).tr (Ag.A Ag.rf rfl))
        have h3 : MWo W (upd f (8 + b) y) (uA τ 51 (8 + b) y) := h.fr a1 (h.2.1.carg h.1 (by omega) (n9_of hx.2)) (Lv.up h2.2.2.2.1)
        rw [c_Model_loads_23 k1, g_Model_loads_26, add8, ixn (k := 8 + b) (by omega) (by decide), cond_true, cond_true, cln (n := 8 + b) (by omega), e8]
        have pos : decide ((0 : Int32) ≤ 10 + f (8 + b)) = true := decide_eq_true (n9_pos (h.2.1.1 b b1).2.2.1)
        refine RnI.mk ⟨a1, rfl, h3, ?_, ⟨(k2.1 3209 rfl).trans rfl, (k2.2.2.1 55 rfl).trans rfl⟩⟩
        dsimp only
        rw [pos]; exact k3
    | false =>
      rw [cond_false, cond_false, if_neg (by decide)]
      exact RnI.mk ⟨a0, rfl, h1, hp1, ⟨rfl, rfl⟩⟩
def tnQ (x : Int32) (W : Wd) (f : Nat → Int32) : Int32 × (Nat → Int32) :=
  bif ax_ix x (wb W) then (1 - f (4 + Int32.toNatClampNeg x), upd (upd f (4 + Int32.toNatClampNeg x) (1 - f (4 + Int32.toNatClampNeg x))) (12 + Int32.toNatClampNeg x) 0) else (-1, f)
theorem op_turnsRound : Op_turnsRound 400 INV := by
  intro d hd k σ x _ h
  refine act_op (acS (tnQ x)) (fun W f => trivial) ?_ ?_ hd h
  · intro d σ W f u m gs hd h hp
    obtain ⟨d, rfl⟩ : ∃ e, d = e + 10 := ⟨d - 10, by omega⟩
    have w4 := h.1.1
    obtain ⟨τ, k1, k2, k3, k4, k5⟩ := C_draft (d := d + 7) h hp
    have ht := h.ag k2 rfl
    have hF : ev (d + 9) 167 0 [(0, .ref 5), (1, .int x)] [] (mkH τ) = bif ax_ix x (wb W) then rI (uA (uA τ 11 (Int32.toNatClampNeg x) (1 - f (4 + Int32.toNatClampNeg x))) 13 (Int32.toNatClampNeg x) 0) (1 - f (4 + Int32.toNatClampNeg x)) else rI τ (-1) := F_turn (d := d + 7) (w := false) ht.1 ht.2.2.2.2.1 ht.2.2.1
    rw [g_Main_turnsRound_0, c_Main_turnsRound_8 k1, g_Main_turnsRound_11]
    unfold acS tnQ
    cases hx : ax_ix x (wb W) with
    | true =>
      rw [hx, cond_true] at hF
      rw [cond_true]
      obtain ⟨b, b1, b2, rfl⟩ := ix_of hx
      rw [cln (n := b) (by omega)] at hF ⊢
      obtain ⟨ρ, z, e1, e2⟩ := C_fin (d := d + 7) (τ' := uA (uA τ 11 b (1 - f (4 + b))) 13 b 0) h k2 k3 k4 k5 (Ag.A (Ag.A Ag.rf rfl) rfl) ((h.2.1.head h.1 (by omega) (z1_sub (h.2.1.1 b b1).2.1)).ther h.1 (k := b) (x := 0) (by omega) (Or.inl rfl)) (FR.ther (w := false) (x := 0) ht.1 (FR.head (w := false) (x := 1 - f (4 + b)) ht.1 ht.2.2.2.2.1 (k := b) (by omega)) (k := b) (by omega)) (r := 1 - f (4 + b))
      rw [c_Main_turnsRound_17 hF, c_Main_turnsRound_20 e1, g_Main_turnsRound_23]
      exact RnI.mk e2
    | false =>
      rw [hx, cond_false] at hF
      rw [cond_false]
      obtain ⟨ρ, z, e1, e2⟩ := C_fin (d := d + 7) h k2 k3 k4 k5 Ag.rf h.2.1 ht.2.2.2.2.1 (r := -1)
      rw [c_Main_turnsRound_17 hF, c_Main_turnsRound_20 e1, g_Main_turnsRound_23]
      exact RnI.mk e2
  · intro d σ W f m gs hd h hp
    obtain ⟨d, rfl⟩ : ∃ e, d = e + 10 := ⟨d - 10, by omega⟩
    have w4 := h.1.1
    have a0 : Ag kAm σ (uI σ 3210 0) := Ag.I Ag.rf rfl
    have h1 := h.nu (n := 3210) (x := 0) rfl
    have hp1 : PaM W m gs (uI σ 3210 0) := hp
    rw [g_Model_turnsRound_0, c_Model_turnsRound_7 (N_isB (d := d + 7) h1.1 h1.2.2.1), g_Model_turnsRound_10]
    unfold acS tnQ
    cases hx : ax_ix x (wb W) with
    | true =>
      rw [cond_true, cond_true, if_neg (by decide)]
      obtain ⟨b, b1, b2, rfl⟩ := ix_of hx
      obtain ⟨τ, k1, k2, k3⟩ := N_remember (d := d + 7) h1 hp1
      have h2 := h1.ag k2 rfl
      have e4 : sA τ 51 (4 + b) = f (4 + b) := (h2.2.2.2.1.1 b b1).2.1
      have hg : ev (d + 9) 69 0 [(0, .ref 50), (1, .int (nI b))] [] (mkH τ) = rV (uA (uA τ 51 (4 + b) (1 - f (4 + b))) 51 (12 + b) 0) := by
        rw [g_Model_goRound_0, add4, add12, ixn (k := 4 + b) (by omega) (by decide), cond_true, cond_true, ixn (k := 12 + b) (by omega) (by decide), cond_true, cln (n := 4 + b) (by omega), cln (n := 12 + b) (by omega), e4]
      have a1 : Ag kAm σ (uA (uA τ 51 (4 + b) (1 - f (4 + b))) 51 (12 + b) 0) := a0.tr ((k2.wk rfl).tr (Ag.A (Ag.A Ag.rf rfl) rfl))
      have h3 : MWo W (upd (upd f (4 + b) (1 - f (4 + b))) (12 + b) 0) (uA (uA τ 51 (4 + b) (1 - f (4 + b))) 51 (12 + b) 0) := h.fr a1 ((h.2.1.head h.1 (by omega) (z1_sub (h.2.1.1 b b1).2.1)).ther h.1 (k := b) (x := 0) (by omega) (Or.inl rfl)) (Lv.up (Lv.up h2.2.2.2.1))
      rw [c_Model_turnsRound_20 k1, g_Model_turnsRound_23, c_Model_turnsRound_25 hg, g_Model_turnsRound_28, add4, ixn (k := 4 + b) (by omega) (by decide), cond_true, cln (n := 4 + b) (by omega), cln (n := b) (by omega), (h3.2.2.2.1.1 b b1).2.1, upN (show 4 + b ≠ 12 + b by omega), upS]
      have pos : decide ((0 : Int32) ≤ 1 - f (4 + b)) = true := decide_eq_true (by
        rcases z1_sub (h.2.1.1 b b1).2.1 with e | e
        · rw [e]; decide
        · rw [e]; decide)
      refine RnI.mk ⟨a1, rfl, h3, ?_, ⟨(k2.1 3209 rfl).trans rfl, (k2.2.2.1 55 rfl).trans rfl⟩⟩
      dsimp only
      rw [pos]; exact k3
    | false =>
      rw [cond_false, cond_false, if_pos rfl]
      exact RnI.mk ⟨a0, rfl, h1, hp1, ⟨rfl, rfl⟩⟩
end P2
