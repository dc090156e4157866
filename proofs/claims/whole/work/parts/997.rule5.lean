/-! rules: a text read as one, by both; the call -/
def kRa : List Nat := [65, 66, 67, 388, 389, 10007, 2948, 2949, 10047]
def kRm : List Nat := [40000, 3212, 3213, 3214, 3215, 3207, 3220]
section R6
variable {d n m a k : Nat} {u : Bool} {σ τ : Sg} {T : Nat → Int32} {E : (Nat → Int32) → Int32} {W : Wd} {f : Nat → Int32}
theorem nohr_d : nohr dflF := fun _ _ _ _ _ _ _ => rfl
theorem Seg.pos {st : Nat → Int32} {j : Nat} (h : Seg st 0 j E) : 0 < j := by
  rcases Nat.eq_zero_or_pos j with z | z
  · exfalso
    subst z
    obtain ⟨S', e1, _, _⟩ := h.2 (fun _ => 0) 0 (fun _ => 0)
    have e1 : ((0 : Nat), (fun _ => (0 : Int32) : Nat → Int32)) = (0 + 1, S') := e1
    have z : (0 : Nat) = 0 + 1 := congrArg Prod.fst e1
    exact absurd z (by decide)
  · exact z
def goodR (n : Nat) (T : Nat → Int32) (E : (Nat → Int32) → Int32) : Prop := n ≤ 40 ∧
  (∀ d σ u, 300 ≤ d → sI σ 65 = nI n → sA σ 2 = T → RnI (ev d 188 0 [(0, .ref (ro u))] [] (mkH σ)) (fun τ y => Ag (67 :: kRu u) σ τ ∧ y = 1 ∧ CR τ u E)) ∧
  (∀ d σ, 300 ≤ d → sI σ 3207 = nI n → (∀ i, i < n → bT (sA σ 54 i) (T i)) → RnI (ev d 43 0 [(0, .ref 50)] [] (mkH σ)) (fun τ y => Ag kRm σ τ ∧ y = 1 ∧ sI τ 3207 = 0)) ∧
  ((n = 0 ∧ E = dflF) ∨ (0 < n ∧ MEv T n E))
def badR (n : Nat) (T : Nat → Int32) (q : Nat) : Prop := q < 200 ∧
  (∀ d σ u, 300 ≤ d → sI σ 65 = nI n → sA σ 2 = T → RnI (ev d 188 0 [(0, .ref (ro u))] [] (mkH σ)) (fun τ y => Ag (67 :: kRu u) σ τ ∧ y = 0 ∧ sI τ 66 = nI q)) ∧
  (∀ d σ, 300 ≤ d → sI σ 3207 = nI n → (∀ i, i < n → bT (sA σ 54 i) (T i)) → RnI (ev d 43 0 [(0, .ref 50)] [] (mkH σ)) (fun τ y => Ag kRm σ τ ∧ y = 0 ∧ sI τ 3207 = 0 ∧ sI τ 3215 = nI q))
/-- both to where the text is read -/
theorem C_cpre (hn : n ≤ 80) (h0 : sI σ 65 = nI n) : ∃ τ, ev (d + 2) 188 0 [(0, .ref (ro u))] [] (mkH σ) = ev (d + 2) 188 19 [(0, .ref (ro u))] [] (mkH τ) ∧ Ag (67 :: kRu u) σ τ ∧ CT τ (sA σ 2) (min n 40) 0 ∧ sI τ 65 = nI n ∧ sI τ (ri u 4) = 0 ∧ sI τ (ri u 5) = 0 := by
  have em : (if (40 : Int32) < nI n then (40 : Int32) else nI n) = nI (min n 40) := by
    rcases Nat.lt_or_ge 40 n with z | z
    · rw [if_pos (show (40 : Int32) < nI n from nI_lt (a := 40) (b := n) z (by omega)), Nat.min_eq_right (by omega)]; rfl
    · rw [if_neg (show ¬ (40 : Int32) < nI n from nI_nlt (a := 40) (b := n) z (by omega)), Nat.min_eq_left z]
  have r65 : sI (uI (uI σ (ri u 4) 0) (ri u 5) 0) 65 = nI n := by cases u <;> exact h0
  have e1 : ev (d + 1) 203 0 [(0, .ref 1), (1, .int 40)] [] (mkH (uI (uI σ (ri u 4) 0) (ri u 5) 0)) = rV (uI (uI (uI (uI σ (ri u 4) 0) (ri u 5) 0) 66 0) 67 (nI (min n 40))) := by rw [g_Script_open_0, r65, em]
  refine ⟨_, by rw [g_Rule_compile_0, c_Rule_compile_16 e1], ?_, ?_, ?_, ?_, ?_⟩
  · cases u
    · exact Ag.I (Ag.I (Ag.I (Ag.I Ag.rf rfl) rfl) rfl) rfl
    · exact Ag.I (Ag.I (Ag.I (Ag.I Ag.rf rfl) rfl) rfl) rfl
  · exact ⟨by cases u <;> rfl, by cases u <;> rfl, by cases u <;> rfl, by omega, by omega⟩
  · cases u <;> exact h0
  · cases u <;> rfl
  · cases u <;> rfl
theorem M_rpre (hn : n ≤ 80) (h7 : sI σ 3207 = nI n) (hT : ∀ i, i < n → bT (sA σ 54 i) (T i)) : ∃ τ, ev (d + 3) 43 0 [(0, .ref 50)] [] (mkH σ) = (if nI n ≤ 0 then ev (d + 3) 43 25 [(0, .ref 50)] [.ref 50] (mkH τ) else ev (d + 3) 43 20 [(0, .ref 50)] [.int 0, .ref 50] (mkH τ)) ∧ Ag kRm σ τ ∧ RD τ T n 40 0 ∧ sI τ 3215 = -1 ∧ sI τ 3207 = 0 := by
  obtain ⟨ρ, t1, t2, t3, t4, t5⟩ := N_text (d := d) (k := 0) (σ := σ) (T := T) (m := 40) (x := 40) hn h7 hT (by omega) rfl
  have a1 : Ag [3220] ρ (uI ρ 3220 0) := Ag.I Ag.rf rfl
  refine ⟨uI ρ 3220 0, ?_, (t2.wk rfl).tr (a1.wk rfl), t3.ag a1 rfl, t4, t5⟩
  rw [g_Model_readRule_0, c_Model_readRule_3 t1, g_Model_readRule_6, t3.1]
theorem R_both (hn : n ≤ 80) (T : Nat → Int32) : (∃ E, goodR n T E) ∨ ∃ q, badR n T q := by
  rcases Nat.eq_zero_or_pos n with hz | hz
  · subst hz
    refine Or.inl ⟨dflF, by omega, fun d σ u hd h1 h2 => ?_, fun d σ hd h1 h2 => ?_, Or.inl ⟨rfl, rfl⟩⟩
    · obtain ⟨d, rfl⟩ : ∃ x, d = x + 2 := ⟨d - 2, by omega⟩
      obtain ⟨τ, s1, s2, s3, s4, s5, s6⟩ := C_cpre (d := d) (u := u) hn h1
      rw [s1, g_Rule_compile_19, s4, if_pos (show nI 0 = (0 : Int32) from rfl)]
      exact RnI.mk ⟨s2, rfl, 0, by omega, s5, Or.inl s6, Or.inl ⟨rfl, rfl⟩, fun _ => nohr_d⟩
    · obtain ⟨d, rfl⟩ : ∃ x, d = x + 4 := ⟨d - 4, by omega⟩
      obtain ⟨τ, s1, s2, s3, s4, s5⟩ := M_rpre (d := d + 1) hn h1 h2
      rw [s1, if_pos (by decide), c_Model_readRule_25 (N_right1 (d := d) s3 s4 (by omega)), g_Model_readRule_28, if_pos (Or.inr rfl)]
      exact RnI.mk ⟨s2, rfl, s5⟩
  · obtain ⟨ok, q, E, h1, h2, h3, h4⟩ := O_rule (T := T) (e := min n 40) (by omega)
    -- the class
    have cl1 : ∀ (d : Nat) (σ : Sg) (u : Bool), 300 ≤ d + 2 → sI σ 65 = nI n → sA σ 2 = T → ∃ τ y, ev (d + 2) 188 0 [(0, .ref (ro u))] [] (mkH σ) = ev (d + 2) 188 34 [(0, .ref (ro u))] [.int y] (mkH τ) ∧ Ag (67 :: kRu u) σ τ ∧ CT τ T (min n 40) q ∧ sI τ 65 = nI n ∧ y = (bif ok then 1 else 0) ∧ (ok = true → CR τ u E) := fun d σ u hd g1 g2 => by
      obtain ⟨τ, s1, s2, s3, s4, s5, s6⟩ := C_cpre (d := d) (u := u) hn g1
      rw [g2] at s3
      obtain ⟨ρ, y, r1, r2, r3, r4, r5⟩ := h3 (d + 1) τ u 0 (by omega) s3 s5 (by omega) (Or.inl s6)
      have r1' : ev (d + 1) 189 0 [(0, .ref (ro u)), (1, .int 0)] [] (mkH τ) = rI ρ y := r1
      rw [s1, g_Rule_compile_19, s4, if_neg (show ¬ nI n = (0 : Int32) from nI_ne (a := n) (b := 0) (by omega) (by decide) (by omega)), c_Rule_compile_31 r1']
      refine ⟨ρ, y, rfl, s2.tr (r2.wk (by cases u <;> rfl)), r3, (r2.1 65 (by cases u <;> rfl)).trans s4, r4, fun z => ?_⟩
      obtain ⟨k', z1', z2, z3, z4, z5, z6⟩ := r5 z
      exact ⟨k', by omega, z1', z5, Or.inr ⟨z3.pos, z3⟩, fun w => (z6 w).2⟩
    have m1' : ∀ (d : Nat) (σ : Sg), 300 ≤ d + 4 → sI σ 3207 = nI n → (∀ i, i < n → bT (sA σ 54 i) (T i)) → ∃ τ, ev (d + 4) 43 0 [(0, .ref 50)] [] (mkH σ) = ev (d + 4) 43 25 [(0, .ref 50)] [.ref 50] (mkH τ) ∧ Ag kRm σ τ ∧ sI τ 3207 = 0 ∧ (ok = false → sI τ 3215 = nI q ∧ ∃ b, RD τ T n 40 b) ∧ (ok = true → sI τ 3215 = -1 ∧ RD τ T n 40 q) := fun d σ hd g1 g2 => by
      obtain ⟨τ, s1, s2, s3, s4, s5⟩ := M_rpre (d := d + 1) hn g1 g2
      obtain ⟨ρ, x, r1, r2, r3, r4⟩ := h4 (d + 3) τ n 40 rfl (by omega) s3 s4
      have r1' : ev (d + 3) 38 0 [(0, .ref 50), (1, .int 0)] [] (mkH τ) = rI ρ x := r1
      rw [s1, if_neg (show ¬ nI n ≤ (0 : Int32) from nI_ge (a := 0) (b := n) hz (by omega)), c_Model_readRule_20 r1', g_Model_readRule_23]
      exact ⟨ρ, rfl, s2.tr (r2.wk rfl), (r2.1 3207 rfl).trans s5, r3, fun z => ⟨(r4 z).1, (r4 z).2.1⟩⟩
    cases ok with
    | false =>
      refine Or.inr ⟨q, by omega, fun d σ u hd g1 g2 => ?_, fun d σ hd g1 g2 => ?_⟩
      · obtain ⟨d, rfl⟩ : ∃ x, d = x + 2 := ⟨d - 2, by omega⟩
        obtain ⟨τ, y, s1, s2, s3, s4, rfl, s6⟩ := cl1 d σ u hd g1 g2
        rw [s1, cond_false, g_Rule_compile_34, if_pos rfl]
        exact RnI.mk ⟨s2, rfl, s3.1⟩
      · obtain ⟨d, rfl⟩ : ∃ x, d = x + 4 := ⟨d - 4, by omega⟩
        obtain ⟨τ, s1, s2, s3, s4, s5⟩ := m1' d σ hd g1 g2
        obtain ⟨t1, b, t2⟩ := s4 rfl
        have nw : ¬ sI τ 3215 = -1 := by rw [t1]; exact nI_nm1 (by omega)
        rw [s1, c_Model_readRule_25 (N_right0 (d := d) t2 nw), g_Model_readRule_28, if_pos (Or.inl rfl)]
        exact RnI.mk ⟨s2, rfl, s3, t1⟩
    | true =>
      by_cases hq : q = n
      · have n40 : n ≤ 40 := by omega
        refine Or.inl ⟨E, n40, fun d σ u hd g1 g2 => ?_, fun d σ hd g1 g2 => ?_, Or.inr ⟨hz, fun d σ th hd g1 g2 g3 g4 => ?_⟩⟩
        · obtain ⟨d, rfl⟩ : ∃ x, d = x + 2 := ⟨d - 2, by omega⟩
          obtain ⟨τ, y, s1, s2, s3, s4, rfl, s6⟩ := cl1 d σ u hd g1 g2
          have er : ev (d + 1) 207 0 [(0, .ref 1)] [] (mkH τ) = rI τ 1 := by
            rw [g_Script_isReadWhole_0, s3.1, s4, hq, if_pos rfl]
          rw [s1, cond_true, g_Rule_compile_34, if_neg (show ¬ (1 : Int32) = 0 by decide), c_Rule_compile_41 er, g_Rule_compile_44, if_neg (show ¬ (1 : Int32) = 0 by decide)]
          exact RnI.mk ⟨s2, rfl, s6 rfl⟩
        · obtain ⟨d, rfl⟩ : ∃ x, d = x + 4 := ⟨d - 4, by omega⟩
          obtain ⟨τ, s1, s2, s3, s4, s5⟩ := m1' d σ hd g1 g2
          obtain ⟨t1, t2⟩ := s5 rfl
          rw [s1, c_Model_readRule_25 (N_right1 (d := d) t2 t1 (by omega)), g_Model_readRule_28, if_pos (Or.inr rfl)]
          exact RnI.mk ⟨s2, rfl, s3⟩
        · obtain ⟨τ, x, s1, s2, s3, s4⟩ := h4 d σ n 40 rfl (by omega) g1 g2
          exact ⟨τ, x, s1, s2, (s4 rfl).2.2 g3 th g4⟩
      · refine Or.inr ⟨q, by omega, fun d σ u hd g1 g2 => ?_, fun d σ hd g1 g2 => ?_⟩
        · obtain ⟨d, rfl⟩ : ∃ x, d = x + 2 := ⟨d - 2, by omega⟩
          obtain ⟨τ, y, s1, s2, s3, s4, rfl, s6⟩ := cl1 d σ u hd g1 g2
          have er : ev (d + 1) 207 0 [(0, .ref 1)] [] (mkH τ) = rI τ 0 := by
            rw [g_Script_isReadWhole_0, s3.1, s4, if_neg (nI_ne (by omega) (by omega) hq)]
          rw [s1, cond_true, g_Rule_compile_34, if_neg (show ¬ (1 : Int32) = 0 by decide), c_Rule_compile_41 er, g_Rule_compile_44, if_pos rfl]
          exact RnI.mk ⟨s2, rfl, s3.1⟩
        · obtain ⟨d, rfl⟩ : ∃ x, d = x + 4 := ⟨d - 4, by omega⟩
          obtain ⟨τ, s1, s2, s3, s4, s5⟩ := m1' d σ hd g1 g2
          obtain ⟨t1, t2⟩ := s5 rfl
          rw [s1, c_Model_readRule_25 (N_right2 (d := d) t2 t1 (by omega)), g_Model_readRule_28, if_pos (Or.inl rfl)]
          exact RnI.mk ⟨s2.tr (Ag.I Ag.rf rfl), rfl, s3, rfl⟩
/-- the text copied, by the reference -/
theorem M_copy {v : Bool} (hn : n ≤ 40) (hT : ∀ i, i < n → bT (sA σ 54 i) (T i)) (hv : sB σ 3 = v) {K : List Nat} (hK : K = [10057, 10058]) : ∀ (g : Nat → Sg → Option ax_R) (Q : Option ax_R → Prop), (∀ i ρ, i < n → sB ρ 3 = v → g i ρ = g (i + 1) (uA ρ (mr (sB ρ 3)) i (vp_nar .byte (sA ρ 54 i)))) → (∀ ρ, Ag K σ ρ → (∀ i, i < n → bT (sA ρ (mr v) i) (T i)) → Q (g n ρ)) → Q (g 0 σ) := by
  intro g Q st fin
  subst hK
  refine lpG (α := Sg) (n := n) (P := fun j ρ => Ag [10057, 10058] σ ρ ∧ ∀ i, i < j → bT (sA ρ (mr v) i) (T i)) (f := g) (Q := Q) ?_ ?_ n 0 σ (by omega) ⟨Ag.rf, fun i hi => absurd hi (Nat.not_lt_zero i)⟩
  · rintro j ρ hj ⟨p1, p2⟩ nx
    have hb : sB ρ 3 = v := (p1.2.2.2.1 3 rfl).trans hv
    have e54 : sA ρ 54 = sA σ 54 := p1.2.1 54 rfl
    rw [st j ρ hj hb, hb]
    refine nx _ ⟨p1.tr (by cases v <;> exact Ag.A Ag.rf rfl), fun i hi => ?_⟩
    have es : sA (uA ρ (mr v) j (vp_nar .byte (sA ρ 54 j))) (mr v) = upd (sA ρ (mr v)) j (vp_nar .byte (sA ρ 54 j)) := by cases v <;> rfl
    rw [es]
    by_cases z : i = j
    · subst z
      rw [upS, nar_by, e54, (hT i hj).2]
      exact hT i hj
    · rw [upN z]; exact p2 i (by omega)
  · rintro ρ ⟨p1, p2⟩
    exact fin ρ p1 p2
theorem op_rule : Op_rule 400 INV := by
  intro d hd k σ hk h
  have h0 := h
  obtain ⟨W, f, ⟨c, m, b3, b2⟩, ⟨n, n1, n2, n3, n4⟩, to, go, pa, ke⟩ := h
  obtain ⟨d, rfl⟩ : ∃ e, d = e + 10 := ⟨d - 10, by omega⟩
  have wk1 : ∀ {u : Bool} {σ τ : Sg}, Ag (67 :: kRu u) σ τ → Ag kRa σ τ := fun {u} {σ} {τ} g => g.wk (by cases u <;> rfl)
  have bT1 : ∀ {σ1 : Sg}, sA σ1 54 = sA σ 54 → ∀ i, i < n → bT (sA (uI σ1 3210 0) 54 i) (sA σ 2 i) := fun {σ1} e i hi => by
    show bT (sA σ1 54 i) _
    rw [e]; exact n4 i hi
  rcases R_both n1 (sA σ 2) with ⟨E, g40, gc, gm, gE⟩ | ⟨q, q200, bc, bm⟩
  · obtain ⟨τ, y, e1, e2, rfl, e4⟩ := gc (d + 9) σ (sB σ 2) (by omega) n2 rfl
    have a2 : Ag kRa σ τ := wk1 e2
    have hb2 : sB τ 2 = sB σ 2 := e2.2.2.2.1 2 (by cases sB σ 2 <;> rfl)
    have hb0 : sB τ 0 = sB σ 0 := e2.2.2.2.1 0 (by cases sB σ 2 <;> rfl)
    have hcl : ev (d + 10) 221 0 [(0, .ref 0)] [] (mkH σ) = rI (uI (uI (uI (uB (uB τ 0 (sB τ 2)) 2 (sB τ 0)) 65 0) 66 0) 67 0) 0 := by
      rw [g_Main_rule_0, c_Main_rule_4 e1, g_Main_rule_7, if_neg (show ¬ (1 : Int32) = 0 by decide), c_Main_rule_39 (C_ans (d := d + 7)), g_Main_rule_42, if_neg (show ¬ (1 : Int32) = 0 by decide)]
    have aσ1 : Ag ([30000, 30002] ++ kRa) σ (uI (uI (uI (uB (uB τ 0 (sB τ 2)) 2 (sB τ 0)) 65 0) 66 0) 67 0) := (a2.wk rfl).tr (Ag.I (Ag.I (Ag.I (Ag.B (Ag.B Ag.rf rfl) rfl) rfl) rfl) rfl)
    have cr : CR (uI (uI (uI (uB (uB τ 0 (sB τ 2)) 2 (sB τ 0)) 65 0) 66 0) 67 0) (sB σ 2) E := e4.ag (show Ag [30000, 30002, 65, 66, 67] τ _ from Ag.I (Ag.I (Ag.I (Ag.B (Ag.B Ag.rf rfl) rfl) rfl) rfl) rfl) (by cases sB σ 2 <;> rfl)
    have s0 : sB (uI (uI (uI (uB (uB τ 0 (sB τ 2)) 2 (sB τ 0)) 65 0) 66 0) 67 0) 0 = sB σ 2 := hb2
    have s2 : sB (uI (uI (uI (uB (uB τ 0 (sB τ 2)) 2 (sB τ 0)) 65 0) 66 0) 67 0) 2 = sB σ 0 := hb0
    have e65 : sI (uI (uI (uI (uB (uB τ 0 (sB τ 2)) 2 (sB τ 0)) 65 0) 66 0) 67 0) 65 = 0 := rfl
    generalize uI (uI (uI (uB (uB τ 0 (sB τ 2)) 2 (sB τ 0)) 65 0) 66 0) 67 0 = σ1 at hcl aσ1 cr s0 s2 e65
    have r07 : sI (uI σ1 3210 0) 3207 = nI n := (aσ1.1 3207 rfl).trans n3
    obtain ⟨ρ, y, m1, m2, rfl, m4⟩ := gm (d + 9) (uI σ1 3210 0) (by omega) r07 (bT1 (aσ1.2.1 54 rfl))
    have aρ : Ag (3210 :: kRm) σ1 ρ := (show Ag (3210 :: kRm) σ1 (uI σ1 3210 0) from Ag.I Ag.rf rfl).tr (m2.wk rfl)
    have b3ρ : sB ρ 3 = false := (aρ.2.2.2.1 3 rfl).trans ((aσ1.2.2.2.1 3 rfl).trans b3)
    have t54 : ∀ i, i < n → bT (sA ρ 54 i) (sA σ 2 i) := fun i hi => by
      rw [aρ.2.1 54 rfl, aσ1.2.1 54 rfl]; exact n4 i hi
    have hml : ∃ ω, ev (d + 10) 44 0 [(0, .ref 50)] [] (mkH σ1) = rI (uI ω 3219 (nI n)) 0 ∧ Ag [10057, 10058] ρ ω ∧ ∀ i, i < n → bT (sA ω 57 i) (sA σ 2 i) := by
      have e3 : sI σ1 3207 = nI n := (aσ1.1 3207 rfl).trans n3
      rw [g_Model_rule_0, e3, c_Model_rule_11 m1, g_Model_rule_14, if_neg (show ¬ (1 : Int32) = 0 by decide)]
      refine M_copy (v := false) (T := sA σ 2) (σ := ρ) g40 t54 b3ρ rfl (fun i ρ => ev (d + 10) 44 26 [(0, .ref 50), (1, .int (nI n)), (2, .int (nI i))] [] (mkH ρ)) (fun o => ∃ ω, o = rI (uI ω 3219 (nI n)) 0 ∧ Ag [10057, 10058] ρ ω ∧ ∀ i, i < n → bT (sA ω 57 i) (sA σ 2 i)) (fun i ρ' hi hb => ?_) (fun ω w1 w2 => ?_)
      · show ev (d + 10) 44 26 [(0, .ref 50), (1, .int (nI n)), (2, .int (nI i))] [] (mkH ρ') = _
        rw [g_Model_rule_26, if_neg (nI_ge hi (by omega)), ixn (k := i) (n := 80) (by omega) (by decide), cond_true, ixn (k := i) (n := 40) (by omega) (by decide), cond_true, cln (n := i) (by omega), nI_1]
      · refine ⟨ω, ?_, w1, w2⟩
        show ev (d + 10) 44 26 [(0, .ref 50), (1, .int (nI n)), (2, .int (nI n))] [] (mkH ω) = _
        rw [g_Model_rule_26, if_pos (nI_le (Nat.le_refl _) (by omega))]
    obtain ⟨ω, hml, w1, w2⟩ := hml
    have aσ2 : Ag (3210 :: 3219 :: 10057 :: 10058 :: kRm) σ1 (uI ω 3219 (nI n)) := (aρ.wk rfl).tr ((w1.wk rfl).tr (Ag.I Ag.rf rfl))
    have aa : Ag ([30000, 30002] ++ kRa ++ (3210 :: 3219 :: 10057 :: 10058 :: kRm)) σ (uI ω 3219 (nI n)) := (aσ1.wk rfl).tr (aσ2.wk rfl)
    refine ⟨σ1, uI ω 3219 (nI n), 0, hcl, hml, aσ1.2.2.2.2.2.2, aa.2.2.2.2.2.2, aa.2.2.2.2.2.1, ?_⟩
    have b3' : sB (uI ω 3219 (nI n)) 3 = false := (aa.2.2.2.1 3 rfl).trans b3
    have b0' : sB (uI ω 3219 (nI n)) 0 = sB σ 2 := (aσ2.2.2.2.1 0 rfl).trans s0
    have b2' : sB (uI ω 3219 (nI n)) 2 = sB σ 0 := (aσ2.2.2.2.1 2 rfl).trans s2
    have mr' : MR (uI ω 3219 (nI n)) E := by
      refine ⟨n, g40, rfl, ?_⟩
      rcases gE with z | ⟨z1', z2⟩
      · exact Or.inl z
      · refine Or.inr ⟨z1', sA σ 2, fun i hi => ?_, z2⟩
        rw [b3']; exact w2 i hi
    have e07 : sI (uI ω 3219 (nI n)) 3207 = 0 := (w1.1 3207 rfl).trans m4
    have cr' : CR (uI ω 3219 (nI n)) (sB (uI ω 3219 (nI n)) 0) E := by
      rw [b0']; exact cr.ag aσ2 (by cases sB σ 2 <;> rfl)
    generalize uI ω 3219 (nI n) = σ2 at aσ2 aa b3' b0' b2' mr' e07 cr'
    exact ⟨((wb W, wp W, wc W), wK W, wl W, E), f, ⟨⟨c.1, c.2.1, c.2.2.1.ag aa rfl, c.2.2.2.1.ag aa rfl, c.2.2.2.2.1.ag aa rfl, cr'⟩, ⟨c.1, c.2.1, m.2.2.1.ag aa rfl, (by rw [aa.2.1 51 rfl]; exact m.2.2.2.1), mr'⟩, b3', by rw [b2', b0', b2, Bool.not_not]⟩, ⟨0, by omega, (aσ2.1 65 rfl).trans e65, e07, fun i hi => absurd hi (Nat.not_lt_zero i)⟩, to.ag aa rfl rfl, go.ag aa rfl, pa.ag aa rfl, (ke.ag aa rfl).mono⟩
  · obtain ⟨τ, y, e1, e2, rfl, e4⟩ := bc (d + 9) σ (sB σ 2) (by omega) n2 rfl
    have a2 : Ag kRa σ τ := wk1 e2
    have hb0 : sB τ 0 = sB σ 0 := a2.2.2.2.1 0 rfl
    have hcl : ev (d + 10) 221 0 [(0, .ref 0)] [] (mkH σ) = rI (uI (uI (uI τ 65 0) 66 0) 67 0) (-1 - nI q) := by
      rw [g_Main_rule_0, c_Main_rule_4 e1, g_Main_rule_7, if_pos rfl, c_Main_rule_39 (C_ans (d := d + 7)), g_Main_rule_42, if_pos rfl, e4]
    have a3 : Ag [65, 66, 67] τ (uI (uI (uI τ 65 0) 66 0) 67 0) := Ag.I (Ag.I (Ag.I Ag.rf rfl) rfl) rfl
    have aσ1 : Ag kRa σ (uI (uI (uI τ 65 0) 66 0) 67 0) := a2.tr (a3.wk rfl)
    have cr : CR (uI (uI (uI τ 65 0) 66 0) 67 0) (sB σ 0) (wV W) := by
      refine (c.2.2.2.2.2.ag e2 ?_).ag a3 (by cases sB σ 0 <;> rfl)
      rw [b2]; cases sB σ 0 <;> rfl
    have e65 : sI (uI (uI (uI τ 65 0) 66 0) 67 0) 65 = 0 := rfl
    generalize uI (uI (uI τ 65 0) 66 0) 67 0 = σ1 at hcl aσ1 cr e65 a3
    have r07 : sI (uI σ1 3210 0) 3207 = nI n := (aσ1.1 3207 rfl).trans n3
    obtain ⟨ρ, y, m1, m2, rfl, m4, m5⟩ := bm (d + 9) (uI σ1 3210 0) (by omega) r07 (bT1 (aσ1.2.1 54 rfl))
    have aσ2 : Ag (3210 :: kRm) σ1 ρ := (show Ag (3210 :: kRm) σ1 (uI σ1 3210 0) from Ag.I Ag.rf rfl).tr (m2.wk rfl)
    have hml : ev (d + 10) 44 0 [(0, .ref 50)] [] (mkH σ1) = rI ρ (-1 - nI q) := by
      rw [g_Model_rule_0, c_Model_rule_11 m1, g_Model_rule_14, if_pos rfl, show Int32.ofInt (-1) = -1 by decide, m5]
    have aa : Ag (kRa ++ (3210 :: kRm)) σ ρ := (aσ1.wk rfl).tr (aσ2.wk rfl)
    refine ⟨σ1, ρ, _, hcl, hml, aσ1.2.2.2.2.2.2, aa.2.2.2.2.2.2, aa.2.2.2.2.2.1, ?_⟩
    refine h0.of ⟨c.1, c.2.1, c.2.2.1.ag aa rfl, c.2.2.2.1.ag aa rfl, c.2.2.2.2.1.ag aa rfl, ?_⟩ (m.ag aa rfl) (aa.2.2.2.1 3 rfl) (aa.2.2.2.1 2 rfl) (aa.2.2.2.1 0 rfl) ⟨0, by omega, (aσ2.1 65 rfl).trans e65, m4, fun i hi => absurd hi (Nat.not_lt_zero i)⟩ (to.ag aa rfl rfl) (go.ag aa rfl) (pa.ag aa rfl) (ke.ag aa rfl).mono
    rw [aa.2.2.2.1 0 rfl]; exact cr.ag aσ2 (by cases sB σ 0 <;> rfl)
end R6
