/-! hours, undo, keep, again -/
section P3
variable {d m x k : Nat} {σ τ : Sg} {W : Wd} {f g : Nat → Int32} {gs : Nat → Nat → Int32} {K : List Nat}
def hrS (x : Int32) (W : Wd) (f : Nat → Int32) : Int32 × (Nat → Int32) × Bool × Option (List Int64) :=
  if inF x 0 60 = 0 then (-1, f, false, none) else (tmF W (itF W f (Int32.toNatClampNeg x)).1, (itF W f (Int32.toNatClampNeg x)).1, decide (0 < Int32.toNatClampNeg x), some [(itF W f (Int32.toNatClampNeg x)).2.1.toInt64, (itF W f (Int32.toNatClampNeg x)).2.2.toInt64])
theorem op_hours : Op_hours 400 INV := by
  intro d hd k σ x _ h
  refine act_op (hrS x) (fun W f => by unfold hrS; split; exact trivial; show 2 ≤ 9; decide) ?_ ?_ hd h
  · intro d σ W f u m gs hd h hp
    obtain ⟨d, rfl⟩ : ∃ e, d = e + 10 := ⟨d - 10, by omega⟩
    rw [g_Main_hours_0, c_Main_hours_4 K_in, g_Main_hours_7]
    unfold hrS
    by_cases hin : inF x 0 60 = 0
    · rw [if_pos hin, if_pos hin]
      exact RnI.mk ⟨Ag.rf, rfl, h, fun i hi => rfl, ⟨u, hp⟩, ⟨rfl, rfl⟩⟩
    · rw [if_neg hin, if_neg hin]
      obtain ⟨n, n0, n1, rfl⟩ := in_n (a := 0) (b := 60) hin rfl rfl (by decide) (by decide)
      rw [cln (n := n) (by omega)]
      obtain ⟨τ, k1, k2, k3, k4, k5⟩ := C_draft (d := d + 7) h hp
      have a1 : Ag [323, 324] τ (uI (uI τ 323 0) 324 0) := Ag.I (Ag.I Ag.rf rfl) rfl
      have ht := (h.ag k2 rfl).ag a1 rfl
      obtain ⟨ρ, z, e1, e2, e3, e4, e5, e6⟩ := F_pass (d := d + 3) (w := false) (σ := uI (uI τ 323 0) 324 0) ht.1 ht.2.1 ht.2.2.2.2.1 ht.2.2.1 ht.2.2.2.1 ht.2.2.2.2.2 (n := n) rfl (by omega)
      have e4' : sI ρ 323 = (itF W f n).2.1 := e4.trans (Int32.zero_add _)
      have e5' : sI ρ 324 = (itF W f n).2.2 := e5.trans (Int32.zero_add _)
      have k3r : PaC W u m gs ρ := (k3.ag a1 rfl).ag e2 rfl
      have k38 : sA ρ 38 = sA τ 38 := e2.2.1 38 rfl
      have aρ : Ag kAc σ ρ := (k2.wk rfl).tr ((a1.wk rfl).tr (e2.wk rfl))
      rw [c_Main_hours_20 k1, g_Main_hours_23, c_Main_hours_44 e1, g_Main_hours_47]
      have fin : ∀ {ρ' : Sg} {M : Nat} {G : Nat → Nat → Int32} {v : Nat}, Ag [2370, 2371] ρ ρ' → PaC W v M G ρ' → RnI (ev (d + 10) 228 79 [(0, .ref 0), (1, .int (nI n)), (2, .int z)] [.long (Int32.toInt64 (sI ρ' 324)), .long (Int32.toInt64 (sI ρ' 323)), .ref 44] (mkH ρ')) (fun τ y => Ag kAc σ τ ∧ y = tmF W (itF W f n).1 ∧ CWo W (itF W f n).1 τ ∧ (∀ i, 572 ≤ i → sA τ 38 i = sA σ 38 i) ∧ (∃ x', PaC W x' M G τ) ∧ TD τ [(itF W f n).2.1.toInt64, (itF W f n).2.2.toInt64]) := fun {ρ'} {M} {G} {v} q1 q2 => by
        obtain ⟨ω, t1, t2, t3⟩ := T_two (d := d + 7) (σ := ρ') (x := (itF W f n).2.1.toInt64) (y := (itF W f n).2.2.toInt64)
        rw [q1.1 323 rfl, q1.1 324 rfl, e4', e5', c_Main_hours_79 t1, g_Main_hours_82, e6]
        have aω : Ag kAc σ ω := aρ.tr ((q1.wk rfl).tr (t2.wk rfl))
        refine RnI.mk ⟨aω, rfl, h.fr aω (it_ok h.1 h.2.1 n) ((e3.ag q1 rfl).ag t2 rfl), fun i hi => ?_, ⟨v, q2.ag t2 rfl⟩, t3⟩
        rw [t2.2.1 38 rfl, q1.2.1 38 rfl, k38]; exact k5 i hi
      rcases Nat.eq_zero_or_pos n with hz | hz
      · rw [if_pos (show nI n ≤ (0 : Int32) from by rw [hz]; decide)]
        have := fin (ρ' := ρ) Ag.rf k3r
        rw [decide_eq_false (show ¬ 0 < n by omega)]
        exact this
      · rw [if_neg (show ¬ nI n ≤ (0 : Int32) from nI_ge (a := 0) (b := n) hz (by omega)), decide_eq_true hz]
        obtain ⟨ρ', q0, q1, q2⟩ := C_enter (d := d + 8) k3r h.2.1 (by rw [k38]; exact k4)
        rw [c_Main_hours_56 q0, g_Main_hours_59]
        exact fin q1 q2
  · intro d σ W f m gs hd h hp
    obtain ⟨d, rfl⟩ : ∃ e, d = e + 10 := ⟨d - 10, by omega⟩
    have a0 : Ag kAm σ (uI σ 3210 0) := Ag.I Ag.rf rfl
    have h1 := h.nu (n := 3210) (x := 0) rfl
    have hp1 : PaM W m gs (uI σ 3210 0) := hp
    rw [g_Model_hours_0, c_Model_hours_9 N_inF, g_Model_hours_12]
    unfold hrS
    by_cases hin : inF x 0 60 = 0
    · rw [if_pos hin, if_pos hin]
      exact RnI.mk ⟨a0, rfl, h1, hp1, ⟨rfl, rfl⟩⟩
    · rw [if_neg hin, if_neg hin]
      obtain ⟨n, n0, n1, rfl⟩ := in_n (a := 0) (b := 60) hin rfl rfl (by decide) (by decide)
      rw [cln (n := n) (by omega)]
      have fin : ∀ {τ : Sg} {M : Nat} {G : Nat → Nat → Int32}, Ag kAm σ τ → MWo W f τ → PaM W M G τ → RnI (ev (d + 10) 63 35 [(0, .ref 50), (1, .int (nI n))] [.int (nI n), .ref 51, .ref 50] (mkH τ)) (fun τ y => Ag kAm σ τ ∧ y = tmF W (itF W f n).1 ∧ MWo W (itF W f n).1 τ ∧ PaM W M G τ ∧ MD τ [(itF W f n).2.1.toInt64, (itF W f n).2.2.toInt64]) := fun {τ} {M} {G} a1 h2 p2 => by
        obtain ⟨ρ, e1, e2, e3, e4, e5⟩ := N_hours (d := d + 4) (v := false) (by omega) h2.1 h2.2.2.1 h2.2.1 h2.2.2.2.1 h2.2.2.2.2 (n := n) rfl (by omega)
        obtain ⟨ω, t1, t2, t3⟩ := N_tell1 (d := d + 8) (σ := ρ) (x := (itF W f n).2.1.toInt64)
        obtain ⟨ω2, s1, s2, s3⟩ := N_tell2 (d := d + 8) (y := (itF W f n).2.2.toInt64) t3
        have aω : Ag kAm σ ω2 := a1.tr ((e2.wk rfl).tr ((t2.wk rfl).tr (s2.wk rfl)))
        have e30 : sI ω 3230 = (itF W f n).2.2 := (t2.1 3230 rfl).trans e5
        have h3 : MWo W (itF W f n).1 ω2 := h.fr aω (it_ok h.1 h.2.1 n) (by rw [s2.2.1 51 rfl, t2.2.1 51 rfl]; exact e3)
        rw [c_Model_hours_35 e1, g_Model_hours_38, e4, c_Model_hours_49 t1, g_Model_hours_52, e30, c_Model_hours_58 s1, g_Model_hours_61, c_Model_hours_66 (N_thereM (v := false) (d := d + 7) h3.1 h3.2.2.1 h3.2.1 h3.2.2.2.1), g_Model_hours_69]
        exact RnI.mk ⟨aω, rfl, h3, ((p2.ag e2 rfl).ag t2 rfl).ag s2 rfl, s3⟩
      rcases Nat.eq_zero_or_pos n with hz | hz
      · rw [if_pos (show nI n ≤ (0 : Int32) from by rw [hz]; decide), decide_eq_false (show ¬ 0 < n by omega)]
        exact fin a0 h1 hp1
      · rw [if_neg (show ¬ nI n ≤ (0 : Int32) from nI_ge (a := 0) (b := n) hz (by omega)), decide_eq_true hz]
        obtain ⟨τ, k1, k2, k3⟩ := N_remember (d := d + 7) h1 hp1
        rw [c_Model_hours_26 k1, g_Model_hours_29]
        exact fin (a0.tr (k2.wk rfl)) (h1.ag k2 rfl) k3
theorem INV.of {σ2 : Sg} {f' : Nat → Int32} (h : INV k σ) (c : CWo W f' σ2) (m' : MWo W f' σ2) (hb3 : sB σ2 3 = sB σ 3) (hb2 : sB σ2 2 = sB σ 2) (hb0 : sB σ2 0 = sB σ 0) (tx : Tx σ2) (to : To σ2) (go : Go σ2) (pa : Pa W σ2) (ke : Ke W (k + 1) σ2) : INV (k + 1) σ2 := by
  obtain ⟨W', f, ⟨a1, a2, a3, a4⟩, _⟩ := h
  exact ⟨W, f', ⟨c, m', by rw [hb3]; exact a3, by rw [hb2, hb0]; exact a4⟩, tx, to, go, pa, ke⟩
/-- a state read back by the reference -/
theorem N_undoL {c : Nat} (hc : c ≤ 11) (h0 : sI σ 3223 = nI c) : RnI (ev (d + 1) 74 26 [(0, .ref 50), (1, .int 0)] [] (mkH σ)) (fun τ y => Ag [10051] σ τ ∧ y = nI c ∧ ∀ i, i < 44 → sA τ 51 i = sA σ 60 (44 * c + i)) := by
  refine lpG (α := Sg) (n := 44) (P := fun k ρ => Ag [10051] σ ρ ∧ ∀ i, i < k → sA ρ 51 i = sA σ 60 (44 * c + i))
    (f := fun k ρ => ev (d + 1) 74 26 [(0, .ref 50), (1, .int (nI k))] [] (mkH ρ)) (Q := fun o => RnI o _) ?_ ?_ 44 0 σ (by omega) ⟨Ag.rf, fun i hi => absurd hi (Nat.not_lt_zero i)⟩
  · rintro j ρ hj ⟨p1, p2⟩ nx
    show RnI (ev (d + 1) 74 26 [(0, .ref 50), (1, .int (nI j))] [] (mkH ρ)) _
    rw [g_Model_undo_26, if_neg (show ¬ (44 : Int32) ≤ nI j from nI_ge (a := j) (b := 44) hj (by decide)), p1.1 3223 rfl, h0, mul44', nI_add, ixn (k := 44 * c + j) (by omega) (by decide), cond_true, ixn (k := j) hj (by decide), cond_true, cln (n := j) (by omega), cln (n := 44 * c + j) (by omega), nI_1, p1.2.1 60 rfl]
    refine nx _ ⟨Ag.A p1 rfl, fun i hi => ?_⟩
    show upd (sA ρ 51) j _ i = _
    by_cases e : i = j
    · subst e; rw [upS]
    · rw [upN e]; exact p2 i (by omega)
  · rintro ρ ⟨p1, p2⟩
    show RnI (ev (d + 1) 74 26 [(0, .ref 50), (1, .int (nI 44))] [] (mkH ρ)) _
    rw [g_Model_undo_26, if_pos (by decide), p1.1 3223 rfl, h0]
    exact RnI.mk ⟨p1, rfl, p2⟩
theorem op_undo : Op_undo 400 INV := by
  intro d hd k σ _ h
  obtain ⟨d, rfl⟩ : ∃ e, d = e + 10 := ⟨d - 10, by omega⟩
  have h0 := h
  obtain ⟨W, f, ⟨c, m, b3, b2⟩, tx, to, go, pa, ke⟩ := h
  obtain ⟨x, n, gs, ⟨p1, p2, p3, p4, p5⟩, q1, q2, q3⟩ := pa.get
  cases n with
  | zero =>
    have a0 : Ag [3210] σ (uI σ 3210 0) := Ag.I Ag.rf rfl
    refine ⟨σ, uI σ 3210 0, -1, ?_, ?_, rfl, rfl, rfl, h0.keep a0 (to.ag a0 rfl rfl) (by decide) (by decide) (by decide) (by decide) (by decide) (by decide) (by decide)⟩
    · have e1 : ev (d + 9) 183 0 [(0, .ref 37), (1, .ref 5)] [] (mkH σ) = rI σ 0 := by rw [g_Past_bringBack_0, p4]; exact if_pos rfl
      rw [g_Main_undo_0, c_Main_undo_8 e1, g_Main_undo_11, if_pos rfl]; rfl
    · rw [g_Model_undo_0, q2]; exact if_pos rfl
  | succ n =>
    have hx' : (x + 13 - 1) % 13 < 13 := by omega
    have hxe : (x + 13 - 1) % 13 = (x + 12 - 0) % 13 := by omega
    obtain ⟨ok0, lv0⟩ := p5 0 (by omega)
    have emod : nI x + 13 - 1 - (nI x + 13 - 1) / 13 * 13 = nI ((x + 13 - 1) % 13) := by
      rw [show nI x + (13 : Int32) = nI (x + 13) from nI_add x 13, show nI (x + 13) - (1 : Int32) = nI (x + 13 - 1) from nI_sub (a := x + 13) (b := 1) (by omega)]
      exact mod_nI (a := x + 13 - 1) (k := 13) (by omega) (by decide)
    have esub : nI (n + 1) - (1 : Int32) = nI n := nI_sub (a := n + 1) (b := 1) (by omega)
    have hne : ¬ nI (n + 1) = 0 := fun e => by
      have := congrArg Int32.toInt e
      rw [nI_toInt (by omega), show (0 : Int32).toInt = 0 from by decide] at this
      omega
    have a1 : Ag [2370, 2371] σ (uI (uI σ 2371 (nI n)) 2370 (nI ((x + 13 - 1) % 13))) := Ag.I (Ag.I Ag.rf rfl) rfl
    obtain ⟨σ1, e1, e2, e3⟩ := K_bring (d := d + 7) (o := 44 * ((x + 13 - 1) % 13)) (c.ag a1 rfl) ok0 (by rw [hxe]; exact lv0) (by omega)
    have hb : ev (d + 9) 183 0 [(0, .ref 37), (1, .ref 5)] [] (mkH σ) = rI σ1 1 := by
      rw [g_Past_bringBack_0, p4, p3, if_neg hne, esub, emod, mul44, c_Past_bringBack_47 e1, g_Past_bringBack_50]
    have s71 : sI σ1 2371 = nI n := (e2.1 2371 rfl).trans rfl
    have aσ1 : Ag ([2370, 2371] ++ kBr) σ σ1 := (a1.wk rfl).tr (e2.wk rfl)
    have a2 : Ag [3210, 3223] σ1 (uI (uI σ1 3210 0) 3223 (nI n)) := Ag.I (Ag.I Ag.rf rfl) rfl
    obtain ⟨σ2, y, m1, m2, rfl, m4⟩ := N_undoL (d := d + 9) (σ := uI (uI σ1 3210 0) 3223 (nI n)) (c := n) (by omega) I_S
    have aσ2 : Ag [3210, 3223, 10051] σ1 σ2 := (a2.wk rfl).tr (m2.wk rfl)
    have aa : Ag ([2370, 2371] ++ kBr ++ [3210, 3223, 10051]) σ σ2 := (aσ1.wk rfl).tr (aσ2.wk rfl)
    refine ⟨σ1, σ2, nI n, ?_, ?_, aσ1.2.2.2.2.2.2, aa.2.2.2.2.2.2, aa.2.2.2.2.2.1, ?_⟩
    · rw [g_Main_undo_0, c_Main_undo_8 hb, g_Main_undo_11, if_neg (by decide), s71]
    · rw [g_Model_undo_0, aσ1.1 3223 rfl, q2, if_neg hne, esub, m1]
    · have m60 : sA σ2 60 = sA σ 60 := aa.2.1 60 rfl
      have m38 : sA σ2 38 = sA σ 38 := aa.2.1 38 rfl
      refine h0.of (e3.ag aσ2 rfl) ⟨c.1, ok0, (m.ag aσ1 rfl).2.2.1.ag aσ2 rfl, ?_, (m.ag aσ1 rfl).2.2.2.2.ag aσ2 rfl⟩ (aa.2.2.2.1 3 rfl) (aa.2.2.2.1 2 rfl) (aa.2.2.2.1 0 rfl) (tx.ag aa rfl) (to.ag aa rfl rfl) (go.ag aa rfl) ?_ (ke.ag aa rfl).mono
      · refine Lv.of44 c.1 (fun i hi => ?_) (q3 0 (by omega))
        rw [m4 i hi]
        show sA σ1 60 (44 * n + i) = sA σ 60 (44 * (n + 1 - 1 - 0) + i)
        rw [aσ1.2.1 60 rfl]; rfl
      · refine PaC.to (x := (x + 13 - 1) % 13) (m := n) (gs := fun j => gs (j + 1)) ⟨hx', by omega, (aσ2.1 2370 rfl).trans ((e2.1 2370 rfl).trans rfl), (aσ2.1 2371 rfl).trans s71, fun j hj => ?_⟩ ⟨by omega, (m2.1 3223 rfl).trans I_S, fun j hj => ?_⟩
        · rw [m38, show ((x + 13 - 1) % 13 + 12 - j) % 13 = (x + 12 - (j + 1)) % 13 by omega]
          exact p5 (j + 1) (by omega)
        · rw [m60]
          have := q3 (j + 1) (by omega)
          rw [show n + 1 - 1 - (j + 1) = n - 1 - j by omega] at this
          exact this
end P3
