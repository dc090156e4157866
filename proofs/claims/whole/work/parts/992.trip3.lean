/-! journey: the call -/
section T4
variable {d k n x m : Nat} {σ τ : Sg} {W : Wd} {f T : Nat → Int32} {gs : Nat → Nat → Int32}
theorem op60 (h0 : sI σ 65 = nI n) (hn : n ≤ 80) : ev (d + 1) 203 0 [(0, .ref 1), (1, .int 60)] [] (mkH σ) = rV (uI (uI σ 66 0) 67 (nI (min n 60))) := by
  have em : (if (60 : Int32) < nI n then (60 : Int32) else nI n) = nI (min n 60) := by
    rcases Nat.lt_or_ge 60 n with z | z
    · rw [if_pos (show (60 : Int32) < nI n from nI_lt (a := 60) (b := n) z (by omega)), Nat.min_eq_right (by omega)]; rfl
    · rw [if_neg (show ¬ (60 : Int32) < nI n from nI_nlt (a := 60) (b := n) z (by omega)), Nat.min_eq_left z]
  rw [g_Script_open_0, h0, em]
def kJa : List Nat := [65, 66, 67] ++ kAc
/-- the class's journey, once its text was read and is right -/
theorem C_jgood (h : CWo W f σ) (hp : PaC W x m gs σ) {e c : Nat} (he : e ≤ 60) (hJ : Jr T e c 0) (ht : sA σ 2 = T) (h65 : sI σ 65 = nI e) (h67 : sI σ 67 = nI e) : RnI (ev (d + 12) 234 25 [(0, .ref 0)] [.ref 5, .ref 37] (mkH σ)) (fun τ y => Ag kJa σ τ ∧ y = nI (jdF T e W c 0 f).1 ∧ CWo W (jdF T e W c 0 f).2.2 τ ∧ (∀ i, 572 ≤ i → sA τ 38 i = sA σ 38 i) ∧ (∃ x', PaC W x' (bif decide (0 < (jdF T e W c 0 f).1) then min (m + 1) 12 else m) (bif decide (0 < (jdF T e W c 0 f).1) then pushG f gs else gs) τ) ∧ TD τ [bif (jdF T e W c 0 f).2.1 then 1 else 0, ((jdF T e W c 0 f).2.2 43).toInt64] ∧ sI τ 65 = 0) := by
  have le := Jr.le _ _ hJ
  have dl := (jd_fl (T := T) (e := e) (W := W) c 0 f).1
  obtain ⟨τ, k1, k2, k3, k4, k5⟩ := C_draft (d := d + 9) h hp
  have a1 : Ag [66] τ (uI τ 66 0) := Ag.I Ag.rf rfl
  have c1 : CT (uI τ 66 0) T e 0 := ⟨rfl, (k2.1 67 rfl).trans h67, (k2.2.1 2 rfl).trans ht, by omega, by omega⟩
  have s65 : sI (uI τ 66 0) 65 = nI e := (k2.1 65 rfl).trans h65
  obtain ⟨τ3, x3, o1, o2, o3⟩ := C_jdo (d := d + 1) he c 0 0 0 f (uI τ 66 0) hJ (by omega) c1 s65 ((h.ag k2 rfl).ag a1 rfl)
  have o3' : ev (d + 12) 234 42 [(0, .ref 0), (1, .int 0), (2, .int 0), (3, .int 0)] [] (mkH (uI τ 66 0)) = jEnd (d + 11) (nI (0 + (jdF T e W c 0 f).1)) (bif (jdF T e W c 0 f).2.1 then 1 else 0) x3 τ3 := o3
  rw [c_Main_journey_25 k1, g_Main_journey_28, o3', Nat.zero_add]
  clear o3 o3'
  have a3 : Ag kJa σ τ3 := (k2.wk rfl).tr ((a1.wk rfl).tr (o1.wk rfl))
  have p3 : PaC W x m gs τ3 := (k3.ag a1 rfl).ag o1 rfl
  have e38 : sA τ3 38 = sA τ 38 := o1.2.1 38 rfl
  have l3 : Lv W (cS (sA τ3 38) (44 * x)) f := by rw [e38]; exact k4
  have f38 : ∀ i, 572 ≤ i → sA τ3 38 i = sA σ 38 i := fun i hi => by rw [e38]; exact k5 i hi
  generalize (jdF T e W c 0 f).2.1 = fl
  generalize hdn : (jdF T e W c 0 f).1 = dn at dl ⊢
  generalize (jdF T e W c 0 f).2.2 = f' at o2 ⊢
  clear hdn
  have fin : ∀ {τ4 : Sg} {M u : Nat} {G : Nat → Nat → Int32} {b : Int64} {x2 : Int32}, Ag [2370, 2371] τ3 τ4 → PaC W u M G τ4 → b = (bif fl then 1 else 0) → RnI (ev (d + 12) 234 132 [(0, .ref 0), (1, .int (nI dn)), (2, .int x2), (3, .int x3)] [.long (Int32.toInt64 (sI τ4 322)), .long b, .ref 44] (mkH τ4)) (fun τ y => Ag kJa σ τ ∧ y = nI dn ∧ CWo W f' τ ∧ (∀ i, 572 ≤ i → sA τ 38 i = sA σ 38 i) ∧ (∃ x', PaC W x' M G τ) ∧ TD τ [bif fl then 1 else 0, (f' 43).toInt64] ∧ sI τ 65 = 0) := fun {τ4} {M} {u} {G} {b} {x2} q1 q2 q3 => by
    subst q3
    have hh : sI τ4 322 = f' 43 := (q1.1 322 rfl).trans o2.2.2.2.2.1.2.2
    obtain ⟨ω, t1, t2, t3⟩ := T_two (d := d + 9) (σ := τ4) (x := bif fl then 1 else 0) (y := (f' 43).toInt64)
    have a5 : Ag [65, 66, 67] ω (uI (uI (uI ω 65 0) 66 0) 67 0) := Ag.I (Ag.I (Ag.I Ag.rf rfl) rfl) rfl
    rw [hh, c_Main_journey_132 t1, g_Main_journey_135, c_Main_journey_138 (C_ans (d := d + 9)), g_Main_journey_141, if_neg (show ¬ (1 : Int32) = 0 by decide)]
    refine RnI.mk ⟨a3.tr ((q1.wk rfl).tr ((t2.wk rfl).tr (a5.wk rfl))), rfl, ((o2.ag q1 rfl).ag t2 rfl).ag a5 rfl, fun i hi => ?_, ⟨u, (q2.ag t2 rfl).ag a5 rfl⟩, ?_, rfl⟩
    · show sA ω 38 i = _
      rw [t2.2.1 38 rfl, q1.2.1 38 rfl]; exact f38 i hi
    · exact t3
  unfold jEnd
  rcases Nat.eq_zero_or_pos dn with hz | hz
  · rw [decide_eq_false (show ¬ 0 < dn by omega), if_pos (show nI dn ≤ (0 : Int32) from by rw [hz]; decide)]
    cases fl with
    | true => rw [cond_true, if_neg (show ¬ (1 : Int32) = 0 by decide)]; exact fin (M := m) (G := gs) (u := x) Ag.rf p3 rfl
    | false => rw [cond_false, if_pos rfl]; exact fin (M := m) (G := gs) (u := x) Ag.rf p3 rfl
  · rw [decide_eq_true hz, if_neg (show ¬ nI dn ≤ (0 : Int32) from nI_ge (a := 0) (b := dn) hz (by omega))]
    obtain ⟨τ4, q0, q1, q2⟩ := C_enter (d := d + 10) p3 h.2.1 l3
    rw [c_Main_journey_108 q0, g_Main_journey_111]
    cases fl with
    | true => rw [cond_true, if_neg (show ¬ (1 : Int32) = 0 by decide)]; exact fin q1 q2 rfl
    | false => rw [cond_false, if_pos rfl]; exact fin q1 q2 rfl
def kJm : List Nat := [10061, 10060, 3223, 3209, 20055] ++ kHm false
theorem M_jgood (hd : 310 ≤ d) (h : MWo W f σ) (hp : PaM W m gs σ) {e c : Nat} (he : e ≤ 60) (hJ : Jr T e c 0) (hL : LjM T e σ c 0 0) : RnI (ev (d + 2) 71 67 [(0, .ref 50), (1, .int (nI c))] [.int 0, .ref 61, .ref 51] (mkH σ)) (fun τ y => Ag kJm σ τ ∧ y = nI (jdF T e W c 0 f).1 ∧ MWo W (jdF T e W c 0 f).2.2 τ ∧ PaM W (bif decide (0 < (jdF T e W c 0 f).1) then min (m + 1) 12 else m) (bif decide (0 < (jdF T e W c 0 f).1) then pushG f gs else gs) τ ∧ MD τ [bif (jdF T e W c 0 f).2.1 then 1 else 0, ((jdF T e W c 0 f).2.2 43).toInt64]) := by
  have le := Jr.le _ _ hJ
  obtain ⟨dl, df⟩ := jd_fl (T := T) (e := e) (W := W) c 0 f
  obtain ⟨τ, k1, k2, k3, _⟩ := N_lay_na (d := d) (σ := σ) (o := 0) (by omega)
  have k1' : ev (d + 1) 55 0 [(0, .ref 51), (1, .ref 61), (2, .int 0)] [] (mkH σ) = rV τ := k1
  have l61 : Lv W (sA τ 61) f := Lv.of44 h.1 (fun i hi => by have := k3 i hi; rw [Nat.zero_add] at this; exact this) h.2.2.2.1
  obtain ⟨τ3, o1, o2, o3⟩ := M_jdo (d := d) hd (C := c) (by omega) c 0 0 f τ (by omega) hJ (LjM.ag k2 rfl _ _ _ hL) (h.ag k2 rfl)
  have o3' : ev (d + 2) 71 72 [(0, .ref 50), (1, .int (nI c)), (2, .int 0)] [] (mkH τ) = mEnd (d + 1) (nI c) (nI (0 + (jdF T e W c 0 f).1)) τ3 := o3
  rw [c_Model_journey_67 k1', g_Model_journey_70, o3', Nat.zero_add]
  clear o3 o3'
  have a3 : Ag kJm σ τ3 := (k2.wk rfl).tr (o1.wk rfl)
  have p3 : PaM W m gs τ3 := (hp.ag k2 rfl).ag o1 rfl
  have l3 : Lv W (sA τ3 61) f := by rw [o1.2.1 61 rfl]; exact l61
  generalize (jdF T e W c 0 f).2.1 = fl at df ⊢
  generalize hdn : (jdF T e W c 0 f).1 = dn at dl df ⊢
  generalize (jdF T e W c 0 f).2.2 = f' at o2 ⊢
  clear hdn
  subst df
  have fin : ∀ {τ4 : Sg} {M : Nat} {G : Nat → Nat → Int32} {b : Int64}, Ag [10060, 3223] τ3 τ4 → PaM W M G τ4 → b = (bif decide (dn < c) then 1 else 0) → RnI (ev (d + 2) 71 146 [(0, .ref 50), (1, .int (nI c)), (2, .int (nI dn))] [.long b, .ref 50] (mkH (uI τ4 3209 0))) (fun τ y => Ag kJm σ τ ∧ y = nI dn ∧ MWo W f' τ ∧ PaM W M G τ ∧ MD τ [bif decide (dn < c) then 1 else 0, (f' 43).toInt64]) := fun {τ4} {M} {G} {b} q1 q2 q3 => by
    subst q3
    obtain ⟨ω, t1, t2, t3⟩ := N_tell1 (d := d) (σ := τ4) (x := bif decide (dn < c) then 1 else 0)
    have hω : MWo W f' ω := (o2.ag q1 rfl).ag t2 rfl
    obtain ⟨ω2, s1, s2, s3⟩ := N_tell2 (d := d) (y := (f' 43).toInt64) t3
    rw [c_Model_journey_146 t1, g_Model_journey_149, hω.2.2.2.1.2.2, c_Model_journey_158 s1, g_Model_journey_161]
    exact RnI.mk ⟨a3.tr ((q1.wk rfl).tr ((t2.wk rfl).tr (s2.wk rfl))), rfl, hω.ag s2 rfl, (q2.ag t2 rfl).ag s2 rfl, s3⟩
  have sel : ∀ {τ4 : Sg}, (if nI c ≤ nI dn then ev (d + 2) 71 146 [(0, .ref 50), (1, .int (nI c)), (2, .int (nI dn))] [.long 0, .ref 50] (mkH (uI τ4 3209 0)) else ev (d + 2) 71 146 [(0, .ref 50), (1, .int (nI c)), (2, .int (nI dn))] [.long 1, .ref 50] (mkH (uI τ4 3209 0))) = ev (d + 2) 71 146 [(0, .ref 50), (1, .int (nI c)), (2, .int (nI dn))] [.long (bif decide (dn < c) then 1 else 0), .ref 50] (mkH (uI τ4 3209 0)) := fun {τ4} => by
    by_cases q : dn < c
    · rw [if_neg (nI_ge q (by omega)), decide_eq_true q, cond_true]
    · rw [if_pos (nI_le (by omega) (by omega)), decide_eq_false q, cond_false]
  unfold mEnd
  rcases Nat.eq_zero_or_pos dn with hz | hz
  · rw [decide_eq_false (show ¬ 0 < dn by omega), if_pos (show nI dn ≤ (0 : Int32) from by rw [hz]; decide), sel]
    exact fin (M := m) (G := gs) Ag.rf p3 rfl
  · rw [decide_eq_true hz, if_neg (show ¬ nI dn ≤ (0 : Int32) from nI_ge (a := 0) (b := dn) hz (by omega))]
    obtain ⟨τ4, q0, q1, q2⟩ := N_rememberA (d := d - 1) h.1 l3 p3
    rw [show d - 1 + 2 = d + 1 by omega] at q0
    rw [c_Model_journey_127 q0, g_Model_journey_130, sel]
    exact fin q1 q2 rfl
theorem op_journey : Op_journey 400 INV := by
  intro d hd k σ hk h
  have h0 := h
  obtain ⟨W, f, ⟨c, m, b3, b2⟩, ⟨n, n1, n2, n3, n4⟩, to, go, pa, ke⟩ := h
  obtain ⟨d, rfl⟩ : ∃ e, d = e + 20 := ⟨d - 20, by omega⟩
  have a1 : Ag [66, 67] σ (uI (uI σ 66 0) 67 (nI (min n 60))) := Ag.I (Ag.I Ag.rf rfl) rfl
  have r65 : sI (uI (uI σ 66 0) 67 (nI (min n 60))) 65 = nI n := n2
  have ct : CT (uI (uI σ 66 0) 67 (nI (min n 60))) (sA σ 2) (min n 60) 0 := ⟨rfl, rfl, rfl, by omega, by omega⟩
  have e0 := op60 (d := d + 17) n2 n1
  generalize uI (uI σ 66 0) 67 (nI (min n 60)) = σ0 at a1 r65 ct e0
  obtain ⟨τ, y, e1, a2, p1, p2⟩ := C_acts (d := d + 17) (e := min n 60) (n := n) (T := sA σ 2) (by omega) n1 (min n 60) 0 σ0 (by omega) (by omega) ct r65
  have rd : ev (d + 19) 208 0 [(0, .ref 1)] [] (mkH σ) = rI τ y := by
    rw [g_Script_readActs_0, c_Script_readActs_3 e0]; exact e1
  have a3 : Ag [66, 67] σ τ := a1.tr (a2.wk rfl)
  have ref : ∀ σ1 : Sg, Ag kJa σ σ1 → ∃ ρ, ev (d + 20) 71 0 [(0, .ref 50)] [] (mkH σ1) = ev (d + 20) 71 13 [(0, .ref 50), (1, .int (nI 0))] [] (mkH ρ) ∧ Ag ([3210] ++ kT) σ1 ρ ∧ RD ρ (sA σ 2) n 60 0 ∧ sI ρ 3215 = -1 ∧ sI ρ 3207 = 0 := fun σ1 g => by
    have a0 : Ag [3210] σ1 (uI σ1 3210 0) := Ag.I Ag.rf rfl
    obtain ⟨ρ, t1, t2, t3, t4, t5⟩ := N_text (d := d + 17) (k := 0) (σ := uI σ1 3210 0) (T := sA σ 2) (m := 60) (x := 60) n1 ((g.1 3207 rfl).trans n3) (fun i hi => by
      show bT (sA σ1 54 i) _
      rw [g.2.1 54 rfl]; exact n4 i hi) (by omega) rfl
    refine ⟨ρ, ?_, (a0.wk rfl).tr (t2.wk rfl), t3, t4, t5⟩
    rw [g_Model_journey_0, c_Model_journey_8 t1, g_Model_journey_11]; rfl
  have no : ∀ q, y = 0 → sI τ 66 = nI q → (∀ ρ, RD ρ (sA σ 2) n 60 0 → sI ρ 3215 = -1 → RnI (ev (d + 20) 71 13 [(0, .ref 50), (1, .int (nI 0))] [] (mkH ρ)) (fun τ y => Ag kJr ρ τ ∧ y = -1 - nI q)) → OpR (INV (k + 1)) (d + 20) 234 71 [(0, .ref 0)] [(0, .ref 50)] σ := fun q hy h66 hm => by
    have aσ1 : Ag [65, 66, 67] σ (uI (uI (uI τ 65 0) 66 0) 67 0) := (a3.wk rfl).tr (Ag.I (Ag.I (Ag.I Ag.rf rfl) rfl) rfl)
    have e65 : sI (uI (uI (uI τ 65 0) 66 0) 67 0) 65 = 0 := rfl
    have hcl : ev (d + 20) 234 0 [(0, .ref 0)] [] (mkH σ) = rI (uI (uI (uI τ 65 0) 66 0) 67 0) (-1 - nI q) := by
      rw [g_Main_journey_0, c_Main_journey_4 rd, g_Main_journey_7, if_pos hy, c_Main_journey_13 (C_ans (d := d + 17)), g_Main_journey_16, if_pos rfl, h66]
    generalize uI (uI (uI τ 65 0) 66 0) 67 0 = σ1 at aσ1 hcl e65
    obtain ⟨ρ, r1, r2, r3, r4, r5⟩ := ref σ1 (aσ1.wk rfl)
    obtain ⟨σ2, y, s1, s2, rfl⟩ := hm ρ r3 r4
    have aσ2 : Ag ([3210] ++ kT ++ kJr) σ1 σ2 := (r2.wk rfl).tr (s2.wk rfl)
    have aa : Ag ([65, 66, 67] ++ ([3210] ++ kT ++ kJr)) σ σ2 := (aσ1.wk rfl).tr (aσ2.wk rfl)
    refine ⟨σ1, σ2, _, hcl, r1.trans s1, aσ1.2.2.2.2.2.2, aa.2.2.2.2.2.2, aa.2.2.2.2.2.1, ?_⟩
    exact h0.of (c.ag aa rfl) (m.ag aa rfl) (aa.2.2.2.1 3 rfl) (aa.2.2.2.1 2 rfl) (aa.2.2.2.1 0 rfl) ⟨0, by omega, (aσ2.1 65 rfl).trans e65, (s2.1 3207 rfl).trans r5, fun i hi => absurd hi (Nat.not_lt_zero i)⟩ (to.ag aa rfl rfl) (go.ag aa rfl) (pa.ag aa rfl) (ke.ag aa rfl).mono
  have hM := fun ρ x1 x2 => M_acts (d := d + 14) (n := n) (T := sA σ 2) (min n 60) 0 0 ρ (by omega) (by omega) (by omega) x1 x2
  cases hS : jrS (sA σ 2) (min n 60) (min n 60) 0 with
  | mk o z =>
  cases o with
  | some q =>
    obtain ⟨q1, q2⟩ := p1 q z hS
    exact no q q1 q2 (fun ρ x1 x2 => (hM ρ x1 x2).1 q z hS)
  | none =>
    obtain ⟨q1, q2⟩ := p2 z hS
    by_cases hn : min n 60 = n
    · have hJ : Jr (sA σ 2) (min n 60) z 0 := jr_ok _ _ _ hS (by omega) (by omega)
      rw [if_pos hn] at q2
      obtain ⟨x, mm, gs, pc, pm⟩ := pa.get
      have t67 : sI τ 67 = nI (min n 60) := (a2.1 67 rfl).trans ct.2.1
      have t65 : sI τ 65 = nI (min n 60) := by rw [hn]; exact (a3.1 65 rfl).trans n2
      obtain ⟨σ1, r, g1, g2, g3, g4, g5, ⟨x', g6⟩, g7, g8⟩ := C_jgood (d := d + 8) (T := sA σ 2) (e := min n 60) (c := z) (c.ag a3 rfl) (pc.ag a3 rfl) (by omega) hJ (a3.2.1 2 rfl) t65 t67
      have hcl : ev (d + 20) 234 0 [(0, .ref 0)] [] (mkH σ) = rI σ1 r := by
        rw [g_Main_journey_0, c_Main_journey_4 rd, g_Main_journey_7, q2, if_neg (show ¬ (1 : Int32) = 0 by decide)]; exact g1
      have aσ1 : Ag kJa σ σ1 := (a3.wk rfl).tr g2
      obtain ⟨ρ, r1, r2, r3, r4, r5⟩ := ref σ1 aσ1
      obtain ⟨ω, k1, k2, k3, k4⟩ := ((hM ρ r3 r4).2 z hS).2 hn
      rw [Nat.zero_add] at k4
      have aω : Ag ([3210] ++ kT ++ kJr) σ1 ω := (r2.wk rfl).tr (k1.wk rfl)
      obtain ⟨σ2, r', v1, v2, v3, v4, v5, v6⟩ := M_jgood (d := d + 18) (T := sA σ 2) (e := min n 60) (c := z) (by omega) ((m.ag aσ1 rfl).ag aω rfl) ((pm.ag aσ1 rfl).ag aω rfl) (by omega) hJ k2
      have er : r' = r := v3.trans g3.symm
      subst er
      have aσ2 : Ag ([3210] ++ kT ++ kJr ++ kJm) σ1 σ2 := (aω.wk rfl).tr (v2.wk rfl)
      have aa : Ag (kJa ++ ([3210] ++ kT ++ kJr ++ kJm)) σ σ2 := (aσ1.wk rfl).tr (aσ2.wk rfl)
      refine ⟨σ1, σ2, r', hcl, r1.trans (k4.trans v1), aσ1.2.2.2.2.2.2, aa.2.2.2.2.2.2, aa.2.2.2.2.2.1, ?_⟩
      exact h0.of (g4.ag aσ2 rfl) v4 (aa.2.2.2.1 3 rfl) (aa.2.2.2.1 2 rfl) (aa.2.2.2.1 0 rfl) ⟨0, by omega, (aσ2.1 65 rfl).trans g8, (v2.1 3207 rfl).trans ((k1.1 3207 rfl).trans r5), fun i hi => absurd hi (Nat.not_lt_zero i)⟩ ⟨_, (by show 2 ≤ 9; decide), ⟨(aσ2.1 2817 rfl).trans g7.1, fun i z hz => by rw [aσ2.2.2.1 45 rfl]; exact g7.2 i z hz⟩, v6⟩ (go.ag aa rfl) ((g6.ag aσ2 rfl).to v5) (ke.ag38 c.1 aa rfl (fun i hi => by rw [aσ2.2.1 38 rfl]; exact (g5 i hi).trans (by rw [a3.2.1 38 rfl]))).mono
    · rw [if_neg hn] at q2
      exact no (min n 60) q2 q1 (fun ρ x1 x2 => ((hM ρ x1 x2).2 z hS).1 (by omega))
end T4
