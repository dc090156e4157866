/-! law: the call -/
def wE (W : Wd) (E : (Nat → Int32) → Int32) : Wd := ((wb W, wp W, wc W), wK W, wl W, E)
def lwF (W : Wd) (f : Nat → Int32) : Int32 := tmF W (itF W f 20).1
theorem law_tab : ∀ q, q < 200 → ¬ (0 : Int32) ≤ -1 - nI q ∧ (Int16.ofInt (-9999)).toInt32 + (-1 - nI q) = (Int16.ofInt (-10000)).toInt32 - nI q := by decide +kernel
def kLa : List Nat := kQc ++ kRa
def kLm : List Nat := [3210, 3219, 30003, 10058, 3209, 20055] ++ kHm true ++ kRm
section LW
variable {d n k : Nat} {u : Bool} {σ τ : Sg} {T : Nat → Int32} {E : (Nat → Int32) → Int32} {W : Wd} {f : Nat → Int32}
theorem N_20 (hd : 300 ≤ d) (h : MWo W f σ) : RnI (ev (d + 7) 115 0 [(0, .ref 50)] [] (mkH σ)) (fun τ x => Ag (kHm true) σ τ ∧ x = lwF W f) := by
  obtain ⟨τ, k1, k2, k3⟩ := N_then (d := d) hd h.1 h.2.2.1 h.2.1 h.2.2.2.1 h.2.2.2.2 (n := 20) (xn := 20) rfl (by decide)
  rw [g_Model_thereIn20_0, c_Model_thereIn20_3 k1, g_Model_thereIn20_6, c_Model_thereIn20_11 (N_thereM (d := d + 4) (v := true) h.1 (h.2.2.1.ag k2 rfl) (it_ok h.1 h.2.1 20) k3), g_Model_thereIn20_14]
  exact RnI.mk ⟨k2, rfl⟩
theorem M_copy1 (hn : n ≤ 40) (hT : ∀ i, i < n → bT (sA σ 54 i) (T i)) (hv : sB σ 3 = true) : ∀ (g : Nat → Sg → Option ax_R) (Q : Option ax_R → Prop), (∀ i ρ, i < n → sB ρ 3 = true → g i ρ = g (i + 1) (uA ρ (mr (sB ρ 3)) i (vp_nar .byte (sA ρ 54 i)))) → (∀ ρ, Ag [10058] σ ρ → (∀ i, i < n → bT (sA ρ 58 i) (T i)) → Q (g n ρ)) → Q (g 0 σ) := by
  intro g Q st fin
  refine lpG (α := Sg) (n := n) (P := fun j ρ => Ag [10058] σ ρ ∧ ∀ i, i < j → bT (sA ρ 58 i) (T i)) (f := g) (Q := Q) ?_ ?_ n 0 σ (by omega) ⟨Ag.rf, fun i hi => absurd hi (Nat.not_lt_zero i)⟩
  · rintro j ρ hj ⟨p1, p2⟩ nx
    have hb : sB ρ 3 = true := (p1.2.2.2.1 3 rfl).trans hv
    have e54 : sA ρ 54 = sA σ 54 := p1.2.1 54 rfl
    rw [st j ρ hj hb, hb]
    refine nx _ ⟨p1.tr (Ag.A Ag.rf rfl), fun i hi => ?_⟩
    show bT (upd (sA ρ 58) j (vp_nar .byte (sA ρ 54 j)) i) (T i)
    by_cases z : i = j
    · subst z
      rw [upS, nar_by, e54, (hT i hj).2]
      exact hT i hj
    · rw [upN z]; exact p2 i (by omega)
  · rintro ρ ⟨p1, p2⟩
    exact fin ρ p1 p2
/-- the class, once the text is right -/
theorem C_law (h : CWo W f σ) (hb : sB σ 2 = !sB σ 0) (hE : CR σ (sB σ 2) E) {x1 : Int32} : RnI (ev (d + 10) 266 26 [(0, .ref 0), (1, .int x1)] [.int 20, .ref 0] (mkH σ)) (fun τ y => Ag kQc σ τ ∧ y = lwF (wE W E) f - lwF W f ∧ TD τ [(lwF (wE W E) f).toInt64, (lwF W f).toInt64]) := by
  obtain ⟨τ, k1, k2, k3, k4⟩ := K_ahead (d := d + 2) h (n := 20) (xn := 20) rfl (by decide)
  obtain ⟨q1, q2, q3, q4, q5, q6⟩ := k3
  have ar : ev (d + 9) 151 0 [(0, .ref (fo true))] [] (mkH τ) = rI τ (lwF W f) := F_arrF (d := d + 7) (w := true) q1 q3 q4
  obtain ⟨ρ, c1, c2, c3, c4⟩ := K_copy (d := d + 8) k4
  have cE : CR ρ (sB σ 2) E := (hE.ag k2 (by cases sB σ 2 <;> rfl)).ag c2 (by cases sB σ 2 <;> rfl)
  have b2 : sB ρ 2 = sB σ 2 := (c2.2.2.2.1 2 rfl).trans (k2.2.2.2.1 2 rfl)
  have a3 : Ag [30001] ρ (uB ρ 1 (sB ρ 2)) := Ag.B Ag.rf rfl
  have t3 : TR (wE W E) f (uB ρ 1 (sB ρ 2)) := by
    obtain ⟨p1, p2, p3, p4, p5, p6⟩ := c3
    refine ⟨p1, p2, p3.ag a3 rfl, p4.ag a3 rfl, p5.ag a3 rfl, ?_⟩
    show CR (uB ρ 1 (sB ρ 2)) (sB ρ 2) E
    rw [b2]
    exact cE.ag (show Ag [30001] ρ (uB ρ 1 (sB σ 2)) from Ag.B Ag.rf rfl) (by cases sB σ 2 <;> rfl)
  obtain ⟨ω, x, e1, e2, e3, e4⟩ := K_pass (d := d + 3) t3 (n := 20) (xn := 20) rfl (by decide)
  have e4 : x = lwF (wE W E) f := e4
  subst e4
  obtain ⟨σ2, t1, t2, t4⟩ := T_two (d := d + 7) (σ := ω) (x := (lwF (wE W E) f).toInt64) (y := (lwF W f).toInt64)
  rw [c_Main_law_26 k1, g_Main_law_29, c_Main_law_29 ar, g_Main_law_32, c_Main_law_41 c1, g_Main_law_44, c_Main_law_61 e1, g_Main_law_64, c_Main_law_73 t1, g_Main_law_76]
  exact RnI.mk ⟨k2.tr ((c2.wk rfl).tr ((a3.wk rfl).tr ((e2.wk rfl).tr (t2.wk rfl)))), rfl, t4⟩
/-- the reference, once the text is right -/
theorem M_law (hd : 320 ≤ d) (h : MWo W f σ) (b3 : sB σ 3 = false) (hn : n ≤ 40) (hT : ∀ i, i < n → bT (sA σ 54 i) (T i)) (hE : (n = 0 ∧ E = dflF) ∨ (0 < n ∧ MEv T n E)) : RnI (ev (d + 1) 116 27 [(0, .ref 50), (1, .int (nI n))] [.ref 50] (mkH σ)) (fun τ y => Ag ([3219, 30003, 10058, 3209, 20055] ++ kHm true) σ τ ∧ sI τ 3219 = sI σ 3219 ∧ sB τ 3 = false ∧ y = lwF (wE W E) f - lwF W f ∧ MD τ [(lwF (wE W E) f).toInt64, (lwF W f).toInt64]) := by
  obtain ⟨d, rfl⟩ : ∃ x, d = x + 7 := ⟨d - 7, by omega⟩
  obtain ⟨τ, x, k1, k2, rfl⟩ := N_20 (d := d) (by omega) h
  have a2 : Ag [30003, 3219] τ (uI (uB τ 3 true) 3219 (nI n)) := Ag.I (Ag.B Ag.rf rfl) rfl
  have s3 : sB (uI (uB τ 3 true) 3219 (nI n)) 3 = true := rfl
  have s19 : sI (uI (uB τ 3 true) 3219 (nI n)) 3219 = nI n := rfl
  have tb3 : sB τ 3 = false := (k2.2.2.2.1 3 rfl).trans b3
  have t19 : sI τ 3219 = sI σ 3219 := k2.1 3219 rfl
  rw [c_Model_law_27 k1, g_Model_law_30, tb3, t19]
  generalize uI (uB τ 3 true) 3219 (nI n) = τ1 at a2 s3 s19
  have aτ : Ag ([30003, 3219] ++ kHm true) σ τ1 := (k2.wk rfl).tr (a2.wk rfl)
  have t54 : ∀ i, i < n → bT (sA τ1 54 i) (T i) := fun i hi => by rw [aτ.2.1 54 rfl]; exact hT i hi
  refine M_copy1 (T := T) (σ := τ1) hn t54 s3 (fun i ρ => ev (d + 7 + 1) 116 58 [(0, .ref 50), (1, .int (nI n)), (2, .int (lwF W f)), (3, .ref (mr false)), (4, .int (sI σ 3219)), (5, .int (nI i))] [] (mkH ρ)) (fun o => RnI o _) (fun i ρ' hi hb => ?_) (fun ω w1 w2 => ?_)
  · show ev (d + 7 + 1) 116 58 [(0, .ref 50), (1, .int (nI n)), (2, .int (lwF W f)), (3, .ref (mr false)), (4, .int (sI σ 3219)), (5, .int (nI i))] [] (mkH ρ') = _
    rw [g_Model_law_58v, if_neg (nI_ge hi (by omega)), ixn (k := i) (n := 80) (by omega) (by decide), cond_true, ixn (k := i) (n := 40) (by omega) (by decide), cond_true, cln (n := i) (by omega), nI_1]
  · show RnI (ev (d + 7 + 1) 116 58 [(0, .ref 50), (1, .int (nI n)), (2, .int (lwF W f)), (3, .ref (mr false)), (4, .int (sI σ 3219)), (5, .int (nI n))] [] (mkH ω)) _
    have aω : Ag ([30003, 3219, 10058] ++ kHm true) σ ω := (aτ.wk rfl).tr (w1.wk rfl)
    have o3 : sB ω 3 = true := (w1.2.2.2.1 3 rfl).trans s3
    have o19 : sI ω 3219 = nI n := (w1.1 3219 rfl).trans s19
    have mE : MWo (wE W E) f ω := by
      refine ⟨h.1, h.2.1, h.2.2.1.ag aω rfl, (by rw [aω.2.1 51 rfl]; exact h.2.2.2.1), n, hn, o19, ?_⟩
      rcases hE with z | ⟨z1', z2⟩
      · exact Or.inl z
      · refine Or.inr ⟨z1', T, fun i hi => ?_, z2⟩
        rw [o3]; exact w2 i hi
    obtain ⟨ρ, x, j1, j2, rfl⟩ := N_20 (d := d) (by omega) mE
    have a4 : Ag [30003, 3219] ρ (uI (uB ρ 3 false) 3219 (sI σ 3219)) := Ag.I (Ag.B Ag.rf rfl) rfl
    have r3 : sB (uI (uB ρ 3 false) 3219 (sI σ 3219)) 3 = false := rfl
    have r19 : sI (uI (uB ρ 3 false) 3219 (sI σ 3219)) 3219 = sI σ 3219 := rfl
    rw [g_Model_law_58v, if_pos (nI_le (Nat.le_refl _) (by omega)), c_Model_law_85v j1, g_Model_law_88v]
    generalize uI (uB ρ 3 false) 3219 (sI σ 3219) = ρ1 at a4 r3 r19
    obtain ⟨κ, t1, t2, t3⟩ := N_tell1 (d := d + 6) (σ := ρ1) (x := (lwF (wE W E) f).toInt64)
    obtain ⟨κ2, u1, u2, u3⟩ := N_tell2 (d := d + 6) (y := (lwF W f).toInt64) t3
    rw [c_Model_law_110v t1, g_Model_law_113v, c_Model_law_116v u1, g_Model_law_119v]
    refine RnI.mk ⟨(aω.wk rfl).tr ((j2.wk rfl).tr ((a4.wk rfl).tr ((t2.wk rfl).tr (u2.wk rfl)))), ?_, ?_, rfl, u3⟩
    · rw [u2.1 3219 rfl, t2.1 3219 rfl]; exact r19
    · rw [u2.2.2.2.1 3 rfl, t2.2.2.2.1 3 rfl]; exact r3
theorem op_law : Op_law 400 INV := by
  intro d hd k σ hk h
  have h0 := h
  obtain ⟨W, f, ⟨c, m, b3, b2⟩, ⟨n, n1, n2, n3, n4⟩, to, go, pa, ke⟩ := h
  obtain ⟨d, rfl⟩ : ∃ e, d = e + 10 := ⟨d - 10, by omega⟩
  have wk1 : ∀ {u : Bool} {σ τ : Sg}, Ag (67 :: kRu u) σ τ → Ag kRa σ τ := fun {u} {σ} {τ} g => g.wk (by cases u <;> rfl)
  have bT1 : ∀ {σ1 : Sg}, sA σ1 54 = sA σ 54 → ∀ i, i < n → bT (sA (uI σ1 3210 0) 54 i) (sA σ 2 i) := fun {σ1} e i hi => by
    show bT (sA σ1 54 i) _
    rw [e]; exact n4 i hi
  rcases R_both n1 (sA σ 2) with ⟨E, g40, gc, gm, gE⟩ | ⟨q, q200, bc, bm⟩
  · obtain ⟨τ, y, e1, e2, rfl, e4⟩ := gc (d + 9) σ (sB σ 2) (by omega) n2 rfl
    have a2 : Ag kRa σ τ := wk1 e2
    have a3 : Ag [65, 66, 67] τ (uI (uI (uI τ 65 0) 66 0) 67 0) := Ag.I (Ag.I (Ag.I Ag.rf rfl) rfl) rfl
    have cr : CR (uI (uI (uI τ 65 0) 66 0) 67 0) (sB σ 0) (wV W) := by
      refine (c.2.2.2.2.2.ag e2 ?_).ag a3 (by cases sB σ 0 <;> rfl)
      rw [b2]; cases sB σ 0 <;> rfl
    have cE : CR (uI (uI (uI τ 65 0) 66 0) 67 0) (sB σ 2) E := e4.ag a3 (by cases sB σ 2 <;> rfl)
    have e65 : sI (uI (uI (uI τ 65 0) 66 0) 67 0) 65 = 0 := rfl
    have pre : ev (d + 10) 266 0 [(0, .ref 0)] [] (mkH σ) = ev (d + 10) 266 26 [(0, .ref 0), (1, .int 0)] [.int 20, .ref 0] (mkH (uI (uI (uI τ 65 0) 66 0) 67 0)) := by
      rw [g_Main_law_0, c_Main_law_5 e1, g_Main_law_8, c_Main_law_9 (C_ans (d := d + 7)), g_Main_law_12, if_neg (show ¬ (1 : Int32) = 0 by decide), if_pos (show (0 : Int32) ≤ 0 by decide)]
    have a4 : Ag kRa σ (uI (uI (uI τ 65 0) 66 0) 67 0) := a2.tr (a3.wk rfl)
    generalize uI (uI (uI τ 65 0) 66 0) 67 0 = σ0 at pre a3 cr cE e65 a4
    have c0 : CWo W f σ0 := ⟨c.1, c.2.1, c.2.2.1.ag a4 rfl, c.2.2.2.1.ag a4 rfl, c.2.2.2.2.1.ag a4 rfl, by rw [a4.2.2.2.1 0 rfl]; exact cr⟩
    have b20 : sB σ0 2 = sB σ 2 := a4.2.2.2.1 2 rfl
    obtain ⟨σ1, r, s1, s2, rfl, s4⟩ := C_law (d := d) (E := E) c0 (by rw [b20, a4.2.2.2.1 0 rfl]; exact b2) (by rw [b20]; exact cE) (x1 := 0)
    have aσ1 : Ag kLa σ σ1 := (a4.wk rfl).tr (s2.wk rfl)
    have r07 : sI (uI σ1 3210 0) 3207 = nI n := (aσ1.1 3207 rfl).trans n3
    obtain ⟨ρ, y, m1, m2, rfl, m4⟩ := gm (d + 9) (uI σ1 3210 0) (by omega) r07 (bT1 (aσ1.2.1 54 rfl))
    have aρ : Ag (3210 :: kRm) σ1 ρ := (show Ag (3210 :: kRm) σ1 (uI σ1 3210 0) from Ag.I Ag.rf rfl).tr (m2.wk rfl)
    have b3ρ : sB ρ 3 = false := (aρ.2.2.2.1 3 rfl).trans ((aσ1.2.2.2.1 3 rfl).trans b3)
    have t54 : ∀ i, i < n → bT (sA ρ 54 i) (sA σ 2 i) := fun i hi => by
      rw [aρ.2.1 54 rfl, aσ1.2.1 54 rfl]; exact n4 i hi
    have mρ : MWo W f ρ := (m.ag aσ1 rfl).ag aρ rfl
    obtain ⟨σ2, r', v1, v2, v3, v4, rfl, v6⟩ := M_law (d := d + 9) (T := sA σ 2) (E := E) (n := n) (by omega) mρ b3ρ g40 t54 gE
    have hml : ev (d + 10) 116 0 [(0, .ref 50)] [] (mkH σ1) = rI σ2 (lwF (wE W E) f - lwF W f) := by
      have e3 : sI σ1 3207 = nI n := (aσ1.1 3207 rfl).trans n3
      rw [g_Model_law_0, e3, c_Model_law_11 m1, g_Model_law_14, if_neg (show ¬ (1 : Int32) = 0 by decide)]
      exact v1
    have aσ2 : Ag kLm σ1 σ2 := (aρ.wk rfl).tr (v2.wk rfl)
    have aa : Ag (kLa ++ kLm) σ σ2 := (aσ1.wk rfl).tr (aσ2.wk rfl)
    have c1 : CWo W f σ1 := c0.ag s2 rfl
    have mr' : MR σ2 (wV W) := by
      have e57 : sA σ2 57 = sA σ 57 := aa.2.1 57 rfl
      have e19 : sI σ2 3219 = sI σ 3219 := v3.trans ((aρ.1 3219 rfl).trans (aσ1.1 3219 rfl))
      have hm := m.2.2.2.2
      unfold MR at hm ⊢
      rw [b3] at hm
      rw [v4, e19]
      show ∃ n, n ≤ 40 ∧ sI σ 3219 = nI n ∧ ((n = 0 ∧ wV W = dflF) ∨ (0 < n ∧ ∃ T, (∀ i, i < n → bT (sA σ2 57 i) (T i)) ∧ MEv T n (wV W)))
      rw [e57]; exact hm
    refine ⟨σ1, σ2, _, pre.trans s1, hml, aσ1.2.2.2.2.2.2, aa.2.2.2.2.2.2, aa.2.2.2.2.2.1, ?_⟩
    exact h0.of (c1.ag aσ2 rfl) ⟨c.1, c.2.1, m.2.2.1.ag aa rfl, (by rw [aa.2.1 51 rfl]; exact m.2.2.2.1), mr'⟩ (v4.trans b3.symm) (aa.2.2.2.1 2 rfl) (aa.2.2.2.1 0 rfl) ⟨0, by omega, (aσ2.1 65 rfl).trans ((s2.1 65 rfl).trans e65), (v2.1 3207 rfl).trans m4, fun i hi => absurd hi (Nat.not_lt_zero i)⟩ ⟨_, (by show 2 ≤ 9; decide), ⟨(aσ2.1 2817 rfl).trans s4.1, fun i z hz => by rw [aσ2.2.2.1 45 rfl]; exact s4.2 i z hz⟩, v6⟩ (go.ag aa rfl) (pa.ag aa rfl) (ke.ag aa rfl).mono
  · obtain ⟨t1, t2⟩ := law_tab q q200
    obtain ⟨τ, y, e1, e2, rfl, e4⟩ := bc (d + 9) σ (sB σ 2) (by omega) n2 rfl
    have a2 : Ag kRa σ τ := wk1 e2
    have hcl : ev (d + 10) 266 0 [(0, .ref 0)] [] (mkH σ) = rI (uI (uI (uI τ 65 0) 66 0) 67 0) ((Int16.ofInt (-10000)).toInt32 - nI q) := by
      rw [g_Main_law_0, c_Main_law_5 e1, g_Main_law_8, c_Main_law_9 (C_ans (d := d + 7)), g_Main_law_12, if_pos rfl, e4, if_neg t1, t2]
    have a3 : Ag [65, 66, 67] τ (uI (uI (uI τ 65 0) 66 0) 67 0) := Ag.I (Ag.I (Ag.I Ag.rf rfl) rfl) rfl
    have aσ1 : Ag kRa σ (uI (uI (uI τ 65 0) 66 0) 67 0) := a2.tr (a3.wk rfl)
    have cr : CR (uI (uI (uI τ 65 0) 66 0) 67 0) (sB σ 0) (wV W) := by
      refine (c.2.2.2.2.2.ag e2 ?_).ag a3 (by cases sB σ 0 <;> rfl)
      rw [b2]; cases sB σ 0 <;> rfl
    have e65 : sI (uI (uI (uI τ 65 0) 66 0) 67 0) 65 = 0 := rfl
    generalize uI (uI (uI τ 65 0) 66 0) 67 0 = σ1 at hcl aσ1 cr e65 a3
    have r07 : sI (uI σ1 3210 0) 3207 = nI n := (aσ1.1 3207 rfl).trans n3
    obtain ⟨ρ, y, m1, m2, rfl, m4, m5⟩ := bm (d + 9) (uI σ1 3210 0) (by omega) r07 (bT1 (aσ1.2.1 54 rfl))
    have aσ2 : Ag (3210 :: kRm) σ1 ρ := (show Ag (3210 :: kRm) σ1 (uI σ1 3210 0) from Ag.I Ag.rf rfl).tr (m2.wk rfl)
    have hml : ev (d + 10) 116 0 [(0, .ref 50)] [] (mkH σ1) = rI ρ ((Int16.ofInt (-10000)).toInt32 - nI q) := by
      rw [g_Model_law_0, c_Model_law_11 m1, g_Model_law_14, if_pos rfl, m5]
    have aa : Ag (kRa ++ (3210 :: kRm)) σ ρ := (aσ1.wk rfl).tr (aσ2.wk rfl)
    refine ⟨σ1, ρ, _, hcl, hml, aσ1.2.2.2.2.2.2, aa.2.2.2.2.2.2, aa.2.2.2.2.2.1, ?_⟩
    refine h0.of ⟨c.1, c.2.1, c.2.2.1.ag aa rfl, c.2.2.2.1.ag aa rfl, c.2.2.2.2.1.ag aa rfl, ?_⟩ (m.ag aa rfl) (aa.2.2.2.1 3 rfl) (aa.2.2.2.1 2 rfl) (aa.2.2.2.1 0 rfl) ⟨0, by omega, (aσ2.1 65 rfl).trans e65, m4, fun i hi => absurd hi (Nat.not_lt_zero i)⟩ (to.ag aa rfl rfl) (go.ag aa rfl) (pa.ag aa rfl) (ke.ag aa rfl).mono
    rw [aa.2.2.2.1 0 rfl]; exact cr.ag aσ2 (by cases sB σ 0 <;> rfl)
end LW
