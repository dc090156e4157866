/-! journey: an act read, an act done -/
def arF (T : Nat → Int32) (e a : Nat) : Option Nat :=
  if heF T e a = 104 ∨ heF T e a = 99 ∨ heF T e a = 119 ∨ heF T e a = 108 ∨ heF T e a = 116 then
    (if inF (heF T e (a + 1)) 48 57 = 0 then some (a + 1) else if heF T e a = 99 ∨ heF T e a = 108 then (if inF (heF T e (a + 2)) 48 57 = 0 then some (a + 2) else none) else none)
  else some a
def lnF (T : Nat → Int32) (e a : Nat) : Nat := if heF T e a = 99 ∨ heF T e a = 108 then 3 else 2
def actF (W : Wd) (f : Nat → Int32) (k x y : Int32) : Bool × (Nat → Int32) :=
  if k = 104 then (true, (itF W f (Int32.toNatClampNeg x)).1) else
  if k = 99 then (decide (rcF W f x y = 0), (chQ x y W f).2) else
  if k = 119 then (ax_ix x (wp W), (wkQ x W f).2) else
  if k = 108 then (ax_ix x (wb W) && (ax_ix y 10 && !(f (8 + Int32.toNatClampNeg x) == y)), (ldQ x y W f).2) else
  (ax_ix x (wb W), (tnQ x W f).2)
def kJc : List Nat := [66, 10010, 10011, 10012, 10013, 10014, 10015, 10016, 10017, 10019, 10020, 10021, 10022, 322, 323, 324, 10008, 10009, 10048, 10049]
section T1
variable {d n m a c e : Nat} {σ τ : Sg} {T : Nat → Int32} {W : Wd} {f g : Nat → Int32} {x y k : Int32}
theorem ar_none (h : arF T e a = none) : (heF T e a = 104 ∨ heF T e a = 99 ∨ heF T e a = 119 ∨ heF T e a = 108 ∨ heF T e a = 116) ∧ ¬ inF (heF T e (a + 1)) 48 57 = 0 ∧ (heF T e a = 99 ∨ heF T e a = 108 → ¬ inF (heF T e (a + 2)) 48 57 = 0) := by
  unfold arF at h
  by_cases h1 : heF T e a = 104 ∨ heF T e a = 99 ∨ heF T e a = 119 ∨ heF T e a = 108 ∨ heF T e a = 116
  · rw [if_pos h1] at h
    by_cases h2 : inF (heF T e (a + 1)) 48 57 = 0
    · rw [if_pos h2] at h; cases h
    · rw [if_neg h2] at h
      refine ⟨h1, h2, fun h3 => ?_⟩
      rw [if_pos h3] at h
      by_cases h4 : inF (heF T e (a + 2)) 48 57 = 0
      · rw [if_pos h4] at h; cases h
      · exact h4
  · rw [if_neg h1] at h; cases h
theorem ar_lt (h : arF T e a = none) : a + lnF T e a ≤ e := by
  obtain ⟨_, h2, h3⟩ := ar_none h
  unfold lnF
  by_cases h4 : heF T e a = 99 ∨ heF T e a = 108
  · rw [if_pos h4]
    obtain ⟨j, j1, _, j3⟩ := dg_n (h3 h4)
    have := he_lt j3 (by omega)
    omega
  · rw [if_neg h4]
    obtain ⟨j, j1, _, j3⟩ := dg_n h2
    have := he_lt j3 (by omega)
    omega
theorem ar_q {q : Nat} (h : arF T e a = some q) : q ≤ a + 2 := by
  unfold arF at h
  split at h
  · split at h
    · have := Option.some.inj h; omega
    · split at h
      · split at h
        · have := Option.some.inj h; omega
        · cases h
      · cases h
  · have := Option.some.inj h; omega
theorem ln_23 : lnF T e a = 2 ∨ lnF T e a = 3 := by unfold lnF; split; exact Or.inr rfl; exact Or.inl rfl
/-- an act done, by the class -/
theorem C_doAct (h : CWo W f σ) (ht : CT σ T e a) (hr : arF T e a = none) (ha : a ≤ 200) : RnI (ev (d + 10) 235 0 [(0, .ref 0)] [] (mkH σ)) (fun τ r => Ag kJc σ τ ∧ CT τ T e (a + lnF T e a) ∧ CWo W (actF W f (heF T e a) (heF T e (a + 1) - 48) (heF T e (a + 2) - 48)).2 τ ∧ decide ((0 : Int32) ≤ r) = (actF W f (heF T e a) (heF T e (a + 1) - 48) (heF T e (a + 2) - 48)).1) := by
  obtain ⟨k1, k2, k3⟩ := ar_none hr
  obtain ⟨j, j1, j2, j3⟩ := dg_n k2
  have w4 := h.1.1
  have w9 := h.1.2.1
  have e1 := C_look (d := d + 8) ht
  have t1 : CT (uI σ 66 (nI (a + 1))) T e (a + 1) := ht.nx (by omega) rfl
  have e2 := C_dig (d := d + 8) t1
  rw [if_neg k2, j2] at e2
  have t2 : CT (uI (uI σ 66 (nI (a + 1))) 66 (nI (a + 1 + 1))) T e (a + 2) := t1.nx (by omega) rfl
  have a2 : Ag [66] σ (uI (uI σ 66 (nI (a + 1))) 66 (nI (a + 1 + 1))) := Ag.I (Ag.I Ag.rf rfl) rfl
  have h2 := h.ag a2 rfl
  rw [g_Main_doAct_0, c_Main_doAct_4 e1, g_Main_doAct_7, ht.1, nI_1, c_Main_doAct_25 e2, g_Main_doAct_28, j2]
  generalize uI (uI σ 66 (nI (a + 1))) 66 (nI (a + 1 + 1)) = σ1 at t2 a2 h2
  have p16 : ∀ {i : Nat}, i ≤ 12 → decide ((0 : Int32) ≤ nI i) = true := fun {i} hi => decide_eq_true (show nI 0 ≤ nI i from nI_le (Nat.zero_le _) (by omega))
  have L2 : ¬ (heF T e a = 99 ∨ heF T e a = 108) → CT σ1 T e (a + lnF T e a) := fun q => by
    unfold lnF; rw [if_neg q]; exact t2
  rcases k1 with z | z | z | z | z
  · -- hours
    have q0 : ¬ (heF T e a = 99 ∨ heF T e a = 108) := by rw [z]; decide
    have L := L2 q0
    rw [z]
    obtain ⟨ρ, r, f1, f2, f3, f4, f5, f6⟩ := F_pass (d := d + 3) (w := false) h2.1 h2.2.1 h2.2.2.2.2.1 h2.2.2.1 h2.2.2.2.1 h2.2.2.2.2.2 (n := j) rfl (by omega)
    have f1' : ev (d + 9) 158 0 [(0, .ref 5), (1, .int (nI j))] [] (mkH σ1) = rI ρ r := f1
    have f2' : Ag (kH false) σ1 ρ := f2
    rw [w_Main_doAct_30_104, g_Main_doAct_72, c_Main_doAct_77 f1', g_Main_doAct_80]
    unfold actF
    rw [if_pos rfl, cln (n := j) (by omega)]
    refine RnI.mk ⟨(a2.wk rfl).tr (f2'.wk rfl), L.ag f2' rfl, h2.fr (f2'.wk rfl) (it_ok h.1 h.2.1 j) f3, ?_⟩
    obtain ⟨i, i1, i2⟩ := tm_n h.1 (itF W f j).1
    rw [f6, i2]; exact p16 (by omega)
  · -- change
    have q0 : heF T e a = 99 ∨ heF T e a = 108 := Or.inl z
    obtain ⟨i, i1, i2, i3⟩ := dg_n (k3 q0)
    have e3 := C_dig (d := d + 8) t2
    rw [if_neg (k3 q0)] at e3
    have t3 : CT (uI σ1 66 (nI (a + 2 + 1))) T e (a + lnF T e a) := by
      unfold lnF; rw [if_pos q0]; exact t2.nx (by omega) rfl
    have a3 : Ag [66] σ (uI σ1 66 (nI (a + 2 + 1))) := a2.tr (Ag.I Ag.rf rfl)
    have h3 := h2.ag (show Ag [66] σ1 (uI σ1 66 (nI (a + 2 + 1))) from Ag.I Ag.rf rfl) rfl
    rw [z, w_Main_doAct_30_99, g_Main_doAct_81, c_Main_doAct_90 e3]
    generalize uI σ1 66 (nI (a + 2 + 1)) = σ2 at t3 a3 h3
    generalize heF T e (a + 2) - 48 = y
    have hF : ev (d + 9) 164 0 [(0, .ref 5), (1, .int (nI j)), (2, .int y)] [] (mkH σ2) = if rcF W f (nI j) y = 0 then rI (uA σ2 19 (Int32.toNatClampNeg (nI j)) y) (bcF (abF W (upd f (16 + Int32.toNatClampNeg (nI j)) y) y)) else rI σ2 (rcF W f (nI j) y) := F_change (d := d + 6) (w := false) h3.1 h3.2.1 h3.2.2.2.2.1 h3.2.2.1
    unfold actF chQ
    rw [if_neg (by decide), if_pos rfl]
    rcases rc_cases (W := W) (f := f) (x := nI j) (y := y) with ⟨r0, r1, r2⟩ | ⟨r0, r1⟩
    · rw [if_pos r0] at hF ⊢
      obtain ⟨p, p1, p2, pe⟩ := ix_of r1
      rw [pe] at hF ⊢
      rw [cln (n := p) (by omega)] at hF ⊢
      have a4 : Ag [10019] σ2 (uA σ2 19 p y) := Ag.A Ag.rf rfl
      rw [c_Main_doAct_93 hF, g_Main_doAct_96]
      refine RnI.mk ⟨(a3.wk rfl).tr (a4.wk rfl), t3.ag a4 rfl, h3.fr (a4.wk rfl) (h.2.1.boat (k := p) h.1 (by omega) r2) (FR.boat (w := false) (k := p) h3.1 h3.2.2.2.2.1 (by omega)), ?_⟩
      rw [← pe, decide_eq_true r0]; exact decide_eq_true (bc_pos w9 _)
    · rw [if_neg r0] at hF ⊢
      rw [c_Main_doAct_93 hF, g_Main_doAct_96]
      refine RnI.mk ⟨a3.wk rfl, t3, h3, ?_⟩
      rw [decide_eq_false r0, decide_eq_false r1]
  · -- wake
    have q0 : ¬ (heF T e a = 99 ∨ heF T e a = 108) := by rw [z]; decide
    have L := L2 q0
    rw [z]
    have hF : ev (d + 9) 165 0 [(0, .ref 5), (1, .int (nI j))] [] (mkH σ1) = bif ax_ix (nI j) (wp W) then rI (uA σ1 20 (Int32.toNatClampNeg (nI j)) (1 - f (25 + Int32.toNatClampNeg (nI j)))) (bcF (awF W (upd f (25 + Int32.toNatClampNeg (nI j)) (1 - f (25 + Int32.toNatClampNeg (nI j)))))) else rI σ1 (-1) := F_wake (d := d + 7) (w := false) h2.1 h2.2.1 h2.2.2.2.2.1 h2.2.2.1
    rw [w_Main_doAct_30_119, g_Main_doAct_97]
    unfold actF wkQ
    rw [if_neg (by decide), if_neg (by decide), if_pos rfl]
    rw [cln (n := j) (by omega)] at hF ⊢
    cases hx : ax_ix (nI j) (wp W) with
    | true =>
      rw [hx, cond_true] at hF
      rw [cond_true, c_Main_doAct_102 hF, g_Main_doAct_105]
      obtain ⟨p, p1, p2, pe⟩ := ix_of hx
      have pj : j = p := Decidable.byContradiction (fun q => nI_ne (by omega) (by omega) q pe)
      subst pj
      have a4 : Ag [10020] σ1 (uA σ1 20 j (1 - f (25 + j))) := Ag.A Ag.rf rfl
      exact RnI.mk ⟨(a2.wk rfl).tr (a4.wk rfl), L.ag a4 rfl, h2.fr (a4.wk rfl) (h.2.1.awak (k := j) h.1 (by omega) (z1_sub (h.2.1.2 j p1).2.1)) (FR.awak (w := false) (k := j) h2.1 h2.2.2.2.2.1 (by omega)), decide_eq_true (bc_pos w9 _)⟩
    | false =>
      rw [hx, cond_false] at hF
      rw [cond_false, c_Main_doAct_102 hF, g_Main_doAct_105]
      exact RnI.mk ⟨a2.wk rfl, L, h2, (show decide ((0 : Int32) ≤ -1) = false by decide)⟩
  · -- load
    have q0 : heF T e a = 99 ∨ heF T e a = 108 := Or.inr z
    have e3 := C_dig (d := d + 8) t2
    rw [if_neg (k3 q0)] at e3
    have t3 : CT (uI σ1 66 (nI (a + 2 + 1))) T e (a + lnF T e a) := by
      unfold lnF; rw [if_pos q0]; exact t2.nx (by omega) rfl
    have a3 : Ag [66] σ (uI σ1 66 (nI (a + 2 + 1))) := a2.tr (Ag.I Ag.rf rfl)
    have h3 := h2.ag (show Ag [66] σ1 (uI σ1 66 (nI (a + 2 + 1))) from Ag.I Ag.rf rfl) rfl
    rw [z, w_Main_doAct_30_108, g_Main_doAct_106, c_Main_doAct_115 e3]
    generalize uI σ1 66 (nI (a + 2 + 1)) = σ2 at t3 a3 h3
    generalize heF T e (a + 2) - 48 = y
    have hF : ev (d + 9) 166 0 [(0, .ref 5), (1, .int (nI j)), (2, .int y)] [] (mkH σ2) = bif ax_ix (nI j) (wb W) && ax_ix y 10 then rI (uA σ2 12 (Int32.toNatClampNeg (nI j)) y) (if f (8 + Int32.toNatClampNeg (nI j)) = y then -2 else 10 + f (8 + Int32.toNatClampNeg (nI j))) else rI σ2 (-1) := F_load (d := d + 7) (w := false) h3.1 h3.2.2.2.2.1 h3.2.2.1
    unfold actF ldQ
    rw [if_neg (by decide), if_neg (by decide), if_neg (by decide), if_pos rfl]
    rw [cln (n := j) (by omega)] at hF ⊢
    rw [← Bool.and_assoc]
    cases hx : ax_ix (nI j) (wb W) && ax_ix y 10 with
    | true =>
      rw [hx, cond_true] at hF
      rw [cond_true, c_Main_doAct_118 hF, g_Main_doAct_121, Bool.true_and]
      rw [Bool.and_eq_true] at hx
      obtain ⟨p, p1, p2, pe⟩ := ix_of hx.1
      have pj : j = p := Decidable.byContradiction (fun q => nI_ne (by omega) (by omega) q pe)
      subst pj
      have a4 : Ag [10012] σ2 (uA σ2 12 j y) := Ag.A Ag.rf rfl
      refine RnI.mk ⟨(a3.wk rfl).tr (a4.wk rfl), t3.ag a4 rfl, h3.fr (a4.wk rfl) (h.2.1.carg (k := j) h.1 (by omega) (n9_of hx.2)) (FR.carg (w := false) (x := y) h3.1 h3.2.2.2.2.1 (k := j) (by omega)), ?_⟩
      by_cases q : f (8 + j) = y
      · rw [if_pos q, beq_t q]; exact (show decide ((0 : Int32) ≤ -2) = false by decide)
      · rw [if_neg q, beq_f q]; exact decide_eq_true (n9_pos (h.2.1.1 j p1).2.2.1)
    | false =>
      rw [hx, cond_false] at hF
      rw [cond_false, c_Main_doAct_118 hF, g_Main_doAct_121, Bool.false_and]
      exact RnI.mk ⟨a3.wk rfl, t3, h3, (show decide ((0 : Int32) ≤ -1) = false by decide)⟩
  · -- turn
    have q0 : ¬ (heF T e a = 99 ∨ heF T e a = 108) := by rw [z]; decide
    have L := L2 q0
    rw [z]
    have hF : ev (d + 9) 167 0 [(0, .ref 5), (1, .int (nI j))] [] (mkH σ1) = bif ax_ix (nI j) (wb W) then rI (uA (uA σ1 11 (Int32.toNatClampNeg (nI j)) (1 - f (4 + Int32.toNatClampNeg (nI j)))) 13 (Int32.toNatClampNeg (nI j)) 0) (1 - f (4 + Int32.toNatClampNeg (nI j))) else rI σ1 (-1) := F_turn (d := d + 7) (w := false) h2.1 h2.2.2.2.2.1 h2.2.2.1
    rw [w_Main_doAct_30_d (by decide) (by decide) (by decide) (by decide), g_Main_doAct_122]
    unfold actF tnQ
    rw [if_neg (by decide), if_neg (by decide), if_neg (by decide), if_neg (by decide)]
    rw [cln (n := j) (by omega)] at hF ⊢
    cases hx : ax_ix (nI j) (wb W) with
    | true =>
      rw [hx, cond_true] at hF
      rw [cond_true, c_Main_doAct_127 hF, g_Main_doAct_130]
      obtain ⟨p, p1, p2, pe⟩ := ix_of hx
      have pj : j = p := Decidable.byContradiction (fun q => nI_ne (by omega) (by omega) q pe)
      subst pj
      have a4 : Ag [10011, 10013] σ1 (uA (uA σ1 11 j (1 - f (4 + j))) 13 j 0) := Ag.A (Ag.A Ag.rf rfl) rfl
      have zz := z1_sub (h.2.1.1 j p1).2.1
      refine RnI.mk ⟨(a2.wk rfl).tr (a4.wk rfl), L.ag a4 rfl, h2.fr (a4.wk rfl) ((h.2.1.head h.1 (by omega) zz).ther h.1 (k := j) (x := 0) (by omega) (Or.inl rfl)) (FR.ther (w := false) (x := 0) h2.1 (FR.head (w := false) (x := 1 - f (4 + j)) h2.1 h2.2.2.2.2.1 (k := j) (by omega)) (k := j) (by omega)), ?_⟩
      rcases zz with e | e
      · rw [e]; exact (show decide ((0 : Int32) ≤ 0) = true by decide)
      · rw [e]; exact (show decide ((0 : Int32) ≤ 1) = true by decide)
    | false =>
      rw [hx, cond_false] at hF
      rw [cond_false, c_Main_doAct_127 hF, g_Main_doAct_130]
      exact RnI.mk ⟨a2.wk rfl, L, h2, (show decide ((0 : Int32) ≤ -1) = false by decide)⟩
/-- an act done, by the reference -/
theorem M_act (hd : 310 ≤ d) (h : MWo W f σ) {j : Nat} (hj : j ≤ 9) (hk : k = 104 ∨ k = 99 ∨ k = 119 ∨ k = 108 ∨ k = 116) {z : Int32} (hz : k = 99 ∨ k = 108 → z = y) : RnI (ev (d + 1) 73 0 [(0, .ref 50), (1, .int k), (2, .int (nI j)), (3, .int z)] [] (mkH σ)) (fun τ r => Ag (kHm false) σ τ ∧ MWo W (actF W f k (nI j) y).2 τ ∧ r = bif (actF W f k (nI j) y).1 then 1 else 0) := by
  obtain ⟨d, rfl⟩ : ∃ e, d = e + 10 := ⟨d - 10, by omega⟩
  have w4 := h.1.1
  have w9 := h.1.2.1
  rw [g_Model_act_0]
  rcases hk with q | q | q | q | q
  · subst q
    obtain ⟨ρ, e1, e2, e3, e4, e5⟩ := N_hours (d := d + 5) (v := false) (by omega) h.1 h.2.2.1 h.2.1 h.2.2.2.1 h.2.2.2.2 (n := j) rfl (by omega)
    have e1' : ev (d + 10) 60 0 [(0, .ref 50), (1, .ref 51), (2, .int (nI j))] [] (mkH σ) = rV ρ := e1
    rw [w_Model_act_1_104, g_Model_act_44, c_Model_act_50 e1', g_Model_act_53]
    unfold actF
    rw [if_pos rfl, cln (n := j) (by omega)]
    exact RnI.mk ⟨e2, h.fr (e2.wk rfl) (it_ok h.1 h.2.1 j) e3, rfl⟩
  · have hy : z = y := hz (Or.inl q)
    subst q
    subst hy
    rw [w_Model_act_1_99, g_Model_act_55, c_Model_act_62 (N_refC (v := false) (d := d + 7) h.1 h.2.2.1 h.2.1 h.2.2.2.1), g_Model_act_65]
    unfold actF chQ
    rw [if_neg (show ¬ (99 : Int32) = 104 by decide), if_pos rfl]
    rcases rc_cases (W := W) (f := f) (x := nI j) (y := z) with ⟨r0, r1, r2⟩ | ⟨r0, r1⟩
    · rw [r0, if_pos (show (0 : Int32) ≤ 0 by decide), if_pos rfl, decide_eq_true rfl]
      obtain ⟨p, p1, p2, pe⟩ := ix_of r1
      have pj : j = p := Decidable.byContradiction (fun q => nI_ne (by omega) (by omega) q pe)
      subst pj
      rw [add16, ixn (k := 16 + j) (by omega) (by decide), cond_true, cln (n := 16 + j) (by omega), cln (n := j) (by omega)]
      have a1 : Ag (kHm false) σ (uA σ 51 (16 + j) z) := Ag.A Ag.rf rfl
      exact RnI.mk ⟨a1, h.fr (a1.wk rfl) (h.2.1.boat h.1 (by omega) r2) (Lv.up h.2.2.2.1), rfl⟩
    · rw [if_neg r1, if_neg r0, decide_eq_false r0]
      exact RnI.mk ⟨Ag.rf, h, rfl⟩
  · subst q
    rw [w_Model_act_1_119, g_Model_act_82, c_Model_act_84 (N_isM (d := d + 8) h.1 h.2.2.1), g_Model_act_87]
    unfold actF wkQ
    rw [if_neg (show ¬ (119 : Int32) = 104 by decide), if_neg (show ¬ (119 : Int32) = 99 by decide), if_pos rfl]
    cases hx : ax_ix (nI j) (wp W) with
    | true =>
      rw [cond_true, cond_true, if_neg (show ¬ (1 : Int32) = 0 by decide)]
      obtain ⟨p, p1, p2, pe⟩ := ix_of hx
      have pj : j = p := Decidable.byContradiction (fun q => nI_ne (by omega) (by omega) q pe)
      subst pj
      have e25 : sA σ 51 (25 + j) = f (25 + j) := (h.2.2.2.1.2.1 j p1).2.1
      have a1 : Ag (kHm false) σ (uA σ 51 (25 + j) (1 - f (25 + j))) := Ag.A Ag.rf rfl
      rw [add25, ixn (k := 25 + j) (by omega) (by decide), cond_true, cond_true, cln (n := 25 + j) (by omega), cln (n := j) (by omega), e25]
      exact RnI.mk ⟨a1, h.fr (a1.wk rfl) (h.2.1.awak h.1 (by omega) (z1_sub (h.2.1.2 j p1).2.1)) (Lv.up h.2.2.2.1), rfl⟩
    | false =>
      rw [cond_false, cond_false, if_pos rfl]
      exact RnI.mk ⟨Ag.rf, h, rfl⟩
  · have hy : z = y := hz (Or.inr q)
    subst q
    subst hy
    rw [w_Model_act_1_108, g_Model_act_114, c_Model_act_117 (N_refL (d := d + 7) h), g_Model_act_120]
    unfold actF ldQ rlF
    rw [if_neg (show ¬ (108 : Int32) = 104 by decide), if_neg (show ¬ (108 : Int32) = 99 by decide), if_neg (show ¬ (108 : Int32) = 119 by decide), if_pos rfl, ← Bool.and_assoc]
    cases hx : ax_ix (nI j) (wb W) && ax_ix z 10 with
    | true =>
      rw [cond_true, cond_true, Bool.true_and]
      rw [Bool.and_eq_true] at hx
      obtain ⟨p, p1, p2, pe⟩ := ix_of hx.1
      have pj : j = p := Decidable.byContradiction (fun q => nI_ne (by omega) (by omega) q pe)
      subst pj
      rw [cln (n := j) (by omega)]
      by_cases hq : f (8 + j) = z
      · rw [if_pos hq, if_neg (show ¬ (0 : Int32) ≤ -2 by decide), beq_t hq, upd_id hq]
        exact RnI.mk ⟨Ag.rf, h, rfl⟩
      · rw [if_neg hq, if_pos (show (0 : Int32) ≤ 0 by decide), beq_f hq]
        have a1 : Ag (kHm false) σ (uA σ 51 (8 + j) z) := Ag.A Ag.rf rfl
        rw [add8, ixn (k := 8 + j) (by omega) (by decide), cond_true, cln (n := 8 + j) (by omega)]
        exact RnI.mk ⟨a1, h.fr (a1.wk rfl) (h.2.1.carg h.1 (by omega) (n9_of hx.2)) (Lv.up h.2.2.2.1), rfl⟩
    | false =>
      rw [cond_false, cond_false, if_neg (show ¬ (0 : Int32) ≤ -1 by decide), Bool.false_and]
      exact RnI.mk ⟨Ag.rf, h, rfl⟩
  · subst q
    rw [w_Model_act_1_d (by decide) (by decide) (by decide) (by decide), g_Model_act_137, c_Model_act_139 (N_isB (d := d + 8) h.1 h.2.2.1), g_Model_act_142]
    unfold actF tnQ
    rw [if_neg (show ¬ (116 : Int32) = 104 by decide), if_neg (show ¬ (116 : Int32) = 99 by decide), if_neg (show ¬ (116 : Int32) = 119 by decide), if_neg (show ¬ (116 : Int32) = 108 by decide)]
    cases hx : ax_ix (nI j) (wb W) with
    | true =>
      rw [cond_true, cond_true, if_neg (show ¬ (1 : Int32) = 0 by decide)]
      obtain ⟨p, p1, p2, pe⟩ := ix_of hx
      have pj : j = p := Decidable.byContradiction (fun q => nI_ne (by omega) (by omega) q pe)
      subst pj
      have e4 : sA σ 51 (4 + j) = f (4 + j) := (h.2.2.2.1.1 j p1).2.1
      have hg : ev (d + 10) 69 0 [(0, .ref 50), (1, .int (nI j))] [] (mkH σ) = rV (uA (uA σ 51 (4 + j) (1 - f (4 + j))) 51 (12 + j) 0) := by
        rw [g_Model_goRound_0, add4, add12, ixn (k := 4 + j) (by omega) (by decide), cond_true, cond_true, ixn (k := 12 + j) (by omega) (by decide), cond_true, cln (n := 4 + j) (by omega), cln (n := 12 + j) (by omega), e4]
      have a1 : Ag (kHm false) σ (uA (uA σ 51 (4 + j) (1 - f (4 + j))) 51 (12 + j) 0) := Ag.A (Ag.A Ag.rf rfl) rfl
      rw [c_Model_act_149 hg, g_Model_act_152, cln (n := j) (by omega)]
      exact RnI.mk ⟨a1, h.fr (a1.wk rfl) ((h.2.1.head h.1 (by omega) (z1_sub (h.2.1.1 j p1).2.1)).ther h.1 (k := j) (x := 0) (by omega) (Or.inl rfl)) (Lv.up (Lv.up h.2.2.2.1)), rfl⟩
    | false =>
      rw [cond_false, cond_false, if_pos rfl]
      exact RnI.mk ⟨Ag.rf, h, rfl⟩
/-- an act read, by the reference -/
theorem M_readAct (h : RD σ T n m a) (hw : sI σ 3215 = -1) (ha : a ≤ 900) (hc : c ≤ 70) :
    (∀ q, arF T (min n m) a = some q → RnV (ev (d + 4) 72 0 [(0, .ref 50), (1, .int (nI (3 * c)))] [] (mkH σ)) (fun τ => Ag [3214, 3215, 10066] σ τ ∧ sI τ 3215 = nI q ∧ ∃ b, RD τ T n m b)) ∧
    (arF T (min n m) a = none → RnV (ev (d + 4) 72 0 [(0, .ref 50), (1, .int (nI (3 * c)))] [] (mkH σ)) (fun τ => Ag [3214, 10066] σ τ ∧ RD τ T n m (a + lnF T (min n m) a) ∧ (sA τ 66 (3 * c) = heF T (min n m) a ∧ sA τ 66 (3 * c + 1) = heF T (min n m) (a + 1) - 48 ∧ (heF T (min n m) a = 99 ∨ heF T (min n m) a = 108 → sA τ 66 (3 * c + 2) = heF T (min n m) (a + 2) - 48)) ∧ ∀ i, i < 3 * c → sA τ 66 i = sA σ 66 i)) := by
  have e9 : (48 : Int32) + 10 - 1 = 57 := by decide
  have e31 : nI (3 * c) + (1 : Int32) = nI (3 * c + 1) := nI_add (3 * c) 1
  have e32 : nI (3 * c) + (2 : Int32) = nI (3 * c + 2) := nI_add (3 * c) 2
  unfold arF
  rw [g_Model_readAct_0, c_Model_readAct_1 (N_here (d := d + 2) h), g_Model_readAct_4]
  generalize hk : heF T (min n m) a = k
  by_cases h0 : k = 104 ∨ k = 99 ∨ k = 119 ∨ k = 108 ∨ k = 116
  · rw [if_pos h0]
    have pre : (if k = 104 then (bif ax_ix (nI (3 * c)) 240 then ev (d + 4) 72 73 [(0, .ref 50), (1, .int (nI (3 * c))), (2, .int k)] [.int 10, .int 48, .ref 50, .int (nI (3 * c) + 1), .ref 66] (mkH (uA (uI σ 3214 (sI σ 3214 + 1)) 66 (Int32.toNatClampNeg (nI (3 * c))) k)) else none) else (if k = 99 then (bif ax_ix (nI (3 * c)) 240 then ev (d + 4) 72 73 [(0, .ref 50), (1, .int (nI (3 * c))), (2, .int k)] [.int 10, .int 48, .ref 50, .int (nI (3 * c) + 1), .ref 66] (mkH (uA (uI σ 3214 (sI σ 3214 + 1)) 66 (Int32.toNatClampNeg (nI (3 * c))) k)) else none) else (if k = 119 then (bif ax_ix (nI (3 * c)) 240 then ev (d + 4) 72 73 [(0, .ref 50), (1, .int (nI (3 * c))), (2, .int k)] [.int 10, .int 48, .ref 50, .int (nI (3 * c) + 1), .ref 66] (mkH (uA (uI σ 3214 (sI σ 3214 + 1)) 66 (Int32.toNatClampNeg (nI (3 * c))) k)) else none) else (if k = 108 then (bif ax_ix (nI (3 * c)) 240 then ev (d + 4) 72 73 [(0, .ref 50), (1, .int (nI (3 * c))), (2, .int k)] [.int 10, .int 48, .ref 50, .int (nI (3 * c) + 1), .ref 66] (mkH (uA (uI σ 3214 (sI σ 3214 + 1)) 66 (Int32.toNatClampNeg (nI (3 * c))) k)) else none) else (if k = 116 then (bif ax_ix (nI (3 * c)) 240 then ev (d + 4) 72 73 [(0, .ref 50), (1, .int (nI (3 * c))), (2, .int k)] [.int 10, .int 48, .ref 50, .int (nI (3 * c) + 1), .ref 66] (mkH (uA (uI σ 3214 (sI σ 3214 + 1)) 66 (Int32.toNatClampNeg (nI (3 * c))) k)) else none) else ev (d + 4) 72 40 [(0, .ref 50), (1, .int (nI (3 * c))), (2, .int k)] [.int (sI σ 3214), .ref 50] (mkH σ)))))) = ev (d + 4) 72 73 [(0, .ref 50), (1, .int (nI (3 * c))), (2, .int k)] [.int 10, .int 48, .ref 50, .int (nI (3 * c + 1)), .ref 66] (mkH (uA (uI σ 3214 (nI (a + 1))) 66 (3 * c) k)) := by
      rw [h.2.2.1, e31, nI_1, ixn (k := 3 * c) (by omega) (by decide), cond_true, cln (n := 3 * c) (by omega)]
      rcases h0 with q | q | q | q | q <;> subst q <;> rfl
    rw [pre]
    clear pre
    have a0 : Ag [10066] (uI σ 3214 (nI (a + 1))) (uA (uI σ 3214 (nI (a + 1))) 66 (3 * c) k) := Ag.A Ag.rf rfl
    have a1 : Ag [3214, 10066] σ (uA (uI σ 3214 (nI (a + 1))) 66 (3 * c) k) := Ag.A (Ag.I Ag.rf rfl) rfl
    have h1 : RD (uA (uI σ 3214 (nI (a + 1))) 66 (3 * c) k) T n m (a + 1) := (h.nx (by omega) rfl).ag a0 rfl
    have w1 : sI (uA (uI σ 3214 (nI (a + 1))) 66 (3 * c) k) 3215 = -1 := hw
    have f1 : sA (uA (uI σ 3214 (nI (a + 1))) 66 (3 * c) k) 66 = upd (sA σ 66) (3 * c) k := rfl
    generalize uA (uI σ 3214 (nI (a + 1))) 66 (3 * c) k = s1 at a0 a1 h1 w1 f1
    clear a0
    have o1 := N_one1 (d := d) (x := 48) (y := 10) h1 w1 (fun q hq => in_j hq (a := 48) (b := 57) rfl (by decide) (by decide) (by decide))
    rw [e9] at o1
    by_cases c1 : inF (heF T (min n m) (a + 1)) 48 57 = 0
    · rw [if_pos c1] at o1 ⊢
      refine ⟨fun q hq => ?_, fun hq => by cases hq⟩
      have hq : a + 1 = q := Option.some.inj hq
      subst hq
      have a2 : Ag [3215, 10066] s1 (uA (uI s1 3215 (nI (a + 1))) 66 (3 * c + 1) 0) := Ag.A (Ag.I Ag.rf rfl) rfl
      have h2 := h1.ag a2 rfl
      have w2 : sI (uA (uI s1 3215 (nI (a + 1))) 66 (3 * c + 1) 0) 3215 = nI (a + 1) := rfl
      rw [c_Model_readAct_73 o1, g_Model_readAct_76, ixn (k := 3 * c + 1) (by omega) (by decide), cond_true, cln (n := 3 * c + 1) (by omega), e32]
      generalize uA (uI s1 3215 (nI (a + 1))) 66 (3 * c + 1) 0 = s2 at a2 h2 w2
      have nw : ¬ sI s2 3215 = -1 := by rw [w2]; exact nI_nm1 (by omega)
      have a3 : Ag [10066] s2 (uA s2 66 (3 * c + 2) 0) := Ag.A Ag.rf rfl
      have two : RnV (ev (d + 4) 72 101 [(0, .ref 50), (1, .int (nI (3 * c))), (2, .int k)] [.int 10, .int 48, .ref 50, .int (nI (3 * c + 2)), .ref 66] (mkH s2)) (fun τ => Ag [3214, 3215, 10066] σ τ ∧ sI τ 3215 = nI (a + 1) ∧ ∃ b, RD τ T n m b) := by
        rw [c_Model_readAct_101 (N_one0 (d := d) h2 nw), g_Model_readAct_104, ixn (k := 3 * c + 2) (by omega) (by decide), cond_true, cln (n := 3 * c + 2) (by omega)]
        exact RnV.mk ⟨(a1.wk rfl).tr ((a2.wk rfl).tr (a3.wk rfl)), w2, _, h2.ag a3 rfl⟩
      split
      · exact two
      · split
        · exact two
        · exact RnV.mk ⟨(a1.wk rfl).tr (a2.wk rfl), w2, _, h2⟩
    · rw [if_neg c1] at o1 ⊢
      have h2 : RD (uA (uI s1 3214 (nI (a + 1 + 1))) 66 (3 * c + 1) (heF T (min n m) (a + 1) - 48)) T n m (a + 2) := (h1.nx (b := a + 2) (by omega) rfl).ag (show Ag [10066] (uI s1 3214 (nI (a + 1 + 1))) (uA (uI s1 3214 (nI (a + 1 + 1))) 66 (3 * c + 1) (heF T (min n m) (a + 1) - 48)) from Ag.A Ag.rf rfl) rfl
      have a2 : Ag [3214, 10066] σ (uA (uI s1 3214 (nI (a + 1 + 1))) 66 (3 * c + 1) (heF T (min n m) (a + 1) - 48)) := a1.tr (Ag.A (Ag.I Ag.rf rfl) rfl)
      have w2 : sI (uA (uI s1 3214 (nI (a + 1 + 1))) 66 (3 * c + 1) (heF T (min n m) (a + 1) - 48)) 3215 = -1 := w1
      have f2 : sA (uA (uI s1 3214 (nI (a + 1 + 1))) 66 (3 * c + 1) (heF T (min n m) (a + 1) - 48)) 66 = upd (upd (sA σ 66) (3 * c) k) (3 * c + 1) (heF T (min n m) (a + 1) - 48) := by
        show upd (sA s1 66) _ _ = _; rw [f1]
      rw [c_Model_readAct_73 o1, g_Model_readAct_76, ixn (k := 3 * c + 1) (by omega) (by decide), cond_true, cln (n := 3 * c + 1) (by omega), e32]
      generalize uA (uI s1 3214 (nI (a + 1 + 1))) 66 (3 * c + 1) (heF T (min n m) (a + 1) - 48) = s2 at a2 h2 w2 f2
      have old : ∀ i, i < 3 * c → sA s2 66 i = sA σ 66 i := fun i hi => by rw [f2, upN (by omega), upN (by omega)]
      have v0 : sA s2 66 (3 * c) = k := by rw [f2, upN (by omega), upS]
      have v1 : sA s2 66 (3 * c + 1) = heF T (min n m) (a + 1) - 48 := by rw [f2, upS]
      by_cases hk2 : k = 99 ∨ k = 108
      · have sel : (if k = 99 then ev (d + 4) 72 101 [(0, .ref 50), (1, .int (nI (3 * c))), (2, .int k)] [.int 10, .int 48, .ref 50, .int (nI (3 * c + 2)), .ref 66] (mkH s2) else (if k = 108 then ev (d + 4) 72 101 [(0, .ref 50), (1, .int (nI (3 * c))), (2, .int k)] [.int 10, .int 48, .ref 50, .int (nI (3 * c + 2)), .ref 66] (mkH s2) else some (mkH s2, some none))) = ev (d + 4) 72 101 [(0, .ref 50), (1, .int (nI (3 * c))), (2, .int k)] [.int 10, .int 48, .ref 50, .int (nI (3 * c + 2)), .ref 66] (mkH s2) := by
          rcases hk2 with q | q
          · rw [if_pos q]
          · rw [if_neg (by rw [q]; decide), if_pos q]
        rw [sel, if_pos hk2]
        have o2 := N_one1 (d := d) (x := 48) (y := 10) h2 w2 (fun q hq => in_j hq (a := 48) (b := 57) rfl (by decide) (by decide) (by decide))
        rw [e9] at o2
        by_cases c2 : inF (heF T (min n m) (a + 2)) 48 57 = 0
        · rw [if_pos c2] at o2 ⊢
          refine ⟨fun q hq => ?_, fun hq => by cases hq⟩
          have hq : a + 2 = q := Option.some.inj hq
          subst hq
          have a3 : Ag [3215, 10066] s2 (uA (uI s2 3215 (nI (a + 2))) 66 (3 * c + 2) 0) := Ag.A (Ag.I Ag.rf rfl) rfl
          rw [c_Model_readAct_101 o2, g_Model_readAct_104, ixn (k := 3 * c + 2) (by omega) (by decide), cond_true, cln (n := 3 * c + 2) (by omega)]
          exact RnV.mk ⟨(a2.wk rfl).tr (a3.wk rfl), rfl, _, h2.ag a3 rfl⟩
        · rw [if_neg c2] at o2 ⊢
          refine ⟨fun q hq => (by cases hq), fun _ => ?_⟩
          rw [c_Model_readAct_101 o2, g_Model_readAct_104, ixn (k := 3 * c + 2) (by omega) (by decide), cond_true, cln (n := 3 * c + 2) (by omega)]
          have el : lnF T (min n m) a = 3 := by unfold lnF; rw [hk]; exact if_pos hk2
          rw [el]
          refine RnV.mk ⟨a2.tr (Ag.A (Ag.I Ag.rf rfl) rfl), (h2.nx (b := a + 3) (by omega) rfl).ag (show Ag [10066] (uI s2 3214 (nI (a + 2 + 1))) (uA (uI s2 3214 (nI (a + 2 + 1))) 66 (3 * c + 2) (heF T (min n m) (a + 2) - 48)) from Ag.A Ag.rf rfl) rfl, ⟨?_, ?_, fun _ => ?_⟩, fun i hi => ?_⟩
          · show upd (sA s2 66) (3 * c + 2) _ (3 * c) = _
            rw [upN (by omega)]; exact v0
          · show upd (sA s2 66) (3 * c + 2) _ (3 * c + 1) = _
            rw [upN (by omega)]; exact v1
          · show upd (sA s2 66) (3 * c + 2) _ (3 * c + 2) = _
            rw [upS]
          · show upd (sA s2 66) (3 * c + 2) _ i = _
            rw [upN (by omega)]; exact old i hi
      · rw [if_neg hk2, if_neg (fun q => hk2 (Or.inl q)), if_neg (fun q => hk2 (Or.inr q))]
        refine ⟨fun q hq => (by cases hq), fun _ => ?_⟩
        have el : lnF T (min n m) a = 2 := by unfold lnF; rw [hk]; exact if_neg hk2
        rw [el]
        exact RnV.mk ⟨a2, h2, ⟨v0, v1, fun q => absurd q hk2⟩, old⟩
  · rw [if_neg h0]
    refine ⟨fun q hq => ?_, fun hq => by cases hq⟩
    have hq : a = q := Option.some.inj hq
    subst hq
    rw [if_neg (fun q => h0 (Or.inl q)), if_neg (fun q => h0 (Or.inr (Or.inl q))), if_neg (fun q => h0 (Or.inr (Or.inr (Or.inl q)))), if_neg (fun q => h0 (Or.inr (Or.inr (Or.inr (Or.inl q))))), if_neg (fun q => h0 (Or.inr (Or.inr (Or.inr (Or.inr q))))), h.2.2.1, c_Model_readAct_40 (N_fault1 (d := d + 1) hw), g_Model_readAct_43]
    have a2 : Ag [3215] σ (uI σ 3215 (nI a)) := Ag.I Ag.rf rfl
    exact RnV.mk ⟨a2.wk rfl, rfl, _, h.ag a2 rfl⟩
end T1
