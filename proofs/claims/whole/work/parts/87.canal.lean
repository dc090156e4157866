/-! canal -/
def goodC (c : Int32) : Bool := c == 46 || (c == 98 || (!(decide (c < 49)) && !(decide (57 < c))))
def ldF (t : Nat → Int32) : Nat → Nat → Nat
  | 0, i => i
  | k + 1, i => bif goodC (t i) then ldF t k (i + 1) else i
def kdF (c : Int32) : Int32 := if c = 46 then 0 else if c = 98 then -1 else c - 48
theorem ld_le {t : Nat → Int32} : ∀ k i, i ≤ ldF t k i ∧ ldF t k i ≤ i + k ∧ (∀ j, i ≤ j → j < ldF t k i → goodC (t j) = true)
  | 0, i => ⟨Nat.le_refl _, Nat.le_refl _, fun j h1 h2 => by
    have h2 : j < i := h2
    omega⟩
  | k + 1, i => by
    unfold ldF
    cases h : goodC (t i) with
    | false => exact ⟨Nat.le_refl _, Nat.le_add_right _ _, fun j h1 h2 => by
        have h2 : j < i := h2
        omega⟩
    | true =>
      obtain ⟨q1, q2, q3⟩ := ld_le (t := t) k (i + 1)
      refine ⟨by rw [cond_true]; omega, by rw [cond_true]; omega, fun j h1 h2 => ?_⟩
      by_cases e : j = i
      · rw [e]; exact h
      · exact q3 j (by omega) h2
theorem good_ck {c : Int32} (h : goodC c = true) : CK (vp_nar .char c) (kdF c) ∧ kOk (kdF c) := by
  unfold goodC at h
  rw [Bool.or_eq_true, Bool.or_eq_true, Bool.and_eq_true] at h
  rcases h with h | h | ⟨h1, h2⟩
  · rw [eq_of_beq h]; exact ⟨Or.inl ⟨by decide, by decide⟩, Or.inl (by decide)⟩
  · rw [eq_of_beq h]; exact ⟨Or.inr (Or.inl ⟨by decide, by decide⟩), Or.inr (Or.inl (by decide))⟩
  · have g1 : ¬ c < 49 := fun z => by rw [decide_eq_true z] at h1; cases h1
    have g2 : ¬ 57 < c := fun z => by rw [decide_eq_true z] at h2; cases h2
    have g0 : ¬ c < 0 := fun z => g1 (Int32.lt_trans z (by decide))
    obtain ⟨j, hj, rfl⟩ := nI_of g0
    have b1 : 49 ≤ j := Decidable.byContradiction (fun z => g1 (show nI j < nI 49 from nI_lt (by omega) (by decide)))
    have b2 : j ≤ 57 := Decidable.byContradiction (fun z => g2 (show nI 57 < nI j from nI_lt (by omega) (by omega)))
    have tab : ∀ j, j < 58 → 49 ≤ j → vp_nar .char (nI j) = nI (48 + (j - 48)) ∧ kdF (nI j) = nI (j - 48) := by decide +kernel
    obtain ⟨t1, t2⟩ := tab j (by omega) b1
    exact ⟨Or.inr (Or.inr ⟨j - 48, by omega, by omega, t1, t2⟩), Or.inr (Or.inr ⟨j - 48, by omega, by omega, t2⟩)⟩
section CN
variable {d n k : Nat} {σ τ ρ : Sg} {W : Wd} {f t : Nat → Int32} {T : Nat → Int32} {K : List Nat} {x y : Int32}
theorem C_stand {c : Int32} : ev (d + 1) 126 0 [(0, .int c)] [] (mkH σ) = rI σ (bif goodC c then 1 else 0) := by
  rw [g_Canal_canStand_0]
  unfold goodC
  by_cases h1 : c = 46
  · rw [if_pos h1, beq_t h1]; rfl
  · rw [if_neg h1, beq_f h1, Bool.false_or]
    by_cases h2 : c = 98
    · rw [if_pos h2, beq_t h2]; rfl
    · rw [if_neg h2, beq_f h2, Bool.false_or]
      by_cases h3 : c < 49
      · rw [if_pos h3, decide_eq_true h3]; rfl
      · rw [if_neg h3, decide_eq_false h3]
        by_cases h4 : 57 < c
        · rw [if_pos h4, decide_eq_true h4]; rfl
        · rw [if_neg h4, decide_eq_false h4]; rfl
theorem C_scan {m : Nat} (hm : m ≤ 80) : ∀ (k i : Nat) (ρ : Sg), i + k = m → sI ρ 66 = nI i → sI ρ 67 = nI m → sA ρ 2 = t → ∃ ρ', Ag [66] ρ ρ' ∧ sI ρ' 66 = nI (ldF t k i) ∧ ev (d + 2) 125 6 [(0, .ref 3), (1, .ref 1)] [] (mkH ρ) = (if nI (ldF t k i) < 4 then rI ρ' 0 else ev (d + 2) 125 54 [(0, .ref 3), (1, .ref 1)] [.ref 1] (mkH ρ')) := by
  intro k
  induction k with
  | zero =>
    intro i ρ hi h1 h2 h3
    refine ⟨ρ, Ag.rf, h1, ?_⟩
    rw [g_Canal_readFrom_6, h1, h2, if_pos (nI_le (by omega) (by omega))]; rfl
  | succ k ih =>
    intro i ρ hi h1 h2 h3
    unfold ldF
    rw [g_Canal_readFrom_6, h1, h2, if_neg (nI_ge (by omega) (by omega)), ixn (k := i) (by omega) (by decide), cond_true, cln (n := i) (by omega), h3, c_Canal_readFrom_26 C_stand, g_Canal_readFrom_29, h1, nI_1]
    cases goodC (t i) with
    | false =>
      refine ⟨ρ, Ag.rf, h1, ?_⟩
      rw [cond_false, if_pos rfl]; rfl
    | true =>
      rw [cond_true, cond_true, if_neg (by decide)]
      have a1 : Ag [66] ρ (uI ρ 66 (nI (i + 1))) := Ag.I Ag.rf rfl
      obtain ⟨ρ', q1, q2, q3⟩ := ih (i + 1) (uI ρ 66 (nI (i + 1))) (by omega) I_S ((a1.1 67 rfl).trans h2) h3
      exact ⟨ρ', a1.tr q1, q2, q3⟩
theorem C_kinds {n : Nat} (hn : n ≤ 30) (h0 : sI σ 193 = nI n) : RnI (ev (d + 1) 125 72 [(0, .ref 3), (1, .ref 1), (2, .int 0)] [] (mkH σ)) (fun τ y => Ag [10004] σ τ ∧ y = 1 ∧ ∀ i, i < n → sA τ 4 i = vp_nar .char (sA σ 2 i)) := by
  refine lpG (α := Sg) (n := n) (P := fun k ρ => Ag [10004] σ ρ ∧ ∀ i, i < k → sA ρ 4 i = vp_nar .char (sA σ 2 i))
    (f := fun k ρ => ev (d + 1) 125 72 [(0, .ref 3), (1, .ref 1), (2, .int (nI k))] [] (mkH ρ)) (Q := fun o => RnI o _) ?_ ?_ n 0 σ (by omega) ⟨Ag.rf, fun i hi => absurd hi (Nat.not_lt_zero i)⟩
  · rintro k ρ hk ⟨p1, p2⟩ nx
    show RnI (ev (d + 1) 125 72 [(0, .ref 3), (1, .ref 1), (2, .int (nI k))] [] (mkH ρ)) _
    rw [g_Canal_readFrom_72, p1.1 193 rfl, h0, if_neg (nI_ge hk (by omega)), ixn (k := k) (n := 80) (by omega) (by decide), cond_true, ixn (k := k) (n := 30) (by omega) (by decide), cond_true, cln (n := k) (by omega), nI_1, p1.2.1 2 rfl]
    refine nx _ ⟨Ag.A p1 rfl, fun i hi => ?_⟩
    show upd (sA ρ 4) k _ i = _
    by_cases e : i = k
    · subst e; rw [upS]
    · rw [upN e]; exact p2 i (by omega)
  · rintro ρ ⟨p1, p2⟩
    show RnI (ev (d + 1) 125 72 [(0, .ref 3), (1, .ref 1), (2, .int (nI n))] [] (mkH ρ)) _
    rw [g_Canal_readFrom_72, p1.1 193 rfl, h0, if_pos (nI_le (Nat.le_refl _) (by omega))]
    exact RnI.mk ⟨p1, rfl, p2⟩
/-- how the class reads a canal -/
theorem C_read {n : Nat} (hn : n ≤ 80) (h0 : sI σ 65 = nI n) : RnI (ev (d + 3) 125 0 [(0, .ref 3), (1, .ref 1)] [] (mkH σ)) (fun τ y => (Ag [66, 67] σ τ ∧ y = 0 ∧ sI τ 66 = nI (ldF (sA σ 2) (min n 30) 0) ∧ (ldF (sA σ 2) (min n 30) 0 < 4 ∨ ldF (sA σ 2) (min n 30) 0 ≠ n)) ∨ (Ag [66, 67, 193, 10004] σ τ ∧ y = 1 ∧ 4 ≤ n ∧ ldF (sA σ 2) (min n 30) 0 = n ∧ sI τ 193 = nI n ∧ ∀ i, i < n → sA τ 4 i = vp_nar .char (sA σ 2 i))) := by
  have em : (if (30 : Int32) < nI n then (30 : Int32) else nI n) = nI (min n 30) := by
    rcases Nat.lt_or_ge 30 n with z | z
    · rw [if_pos (show (30 : Int32) < nI n from nI_lt (a := 30) (b := n) z (by omega)), Nat.min_eq_right (by omega)]; rfl
    · rw [if_neg (show ¬ (30 : Int32) < nI n from nI_nlt (a := 30) (b := n) z (by omega)), Nat.min_eq_left z]
  have e1 : ev (d + 2) 203 0 [(0, .ref 1), (1, .int 30)] [] (mkH σ) = rV (uI (uI σ 66 0) 67 (nI (min n 30))) := by rw [g_Script_open_0, h0, em]
  have a1 : Ag [66, 67] σ (uI (uI σ 66 0) 67 (nI (min n 30))) := Ag.I (Ag.I Ag.rf rfl) rfl
  obtain ⟨ρ, q1, q2, q3⟩ := C_scan (d := d + 1) (t := sA σ 2) (m := min n 30) (by omega) (min n 30) 0 (uI (uI σ 66 0) 67 (nI (min n 30))) (by omega) rfl I_S rfl
  have hp := ld_le (t := sA σ 2) (min n 30) 0
  have aρ : Ag [66, 67] σ ρ := a1.tr (q1.wk rfl)
  rw [g_Canal_readFrom_0, c_Canal_readFrom_3 e1, q3]
  generalize ldF (sA σ 2) (min n 30) 0 = p at q2 hp ⊢
  rcases Nat.lt_or_ge p 4 with z | z
  · rw [if_pos (show nI p < (4 : Int32) from nI_lt (a := p) (b := 4) z (by decide))]
    exact RnI.mk (Or.inl ⟨aρ, rfl, q2, Or.inl z⟩)
  · rw [if_neg (show ¬ nI p < (4 : Int32) from nI_nlt (a := p) (b := 4) z (by omega))]
    have e65 : sI ρ 65 = nI n := (aρ.1 65 rfl).trans h0
    have er : ev (d + 2) 207 0 [(0, .ref 1)] [] (mkH ρ) = rI ρ (if p = n then 1 else 0) := by
      rw [g_Script_isReadWhole_0, q2, e65]
      by_cases e : p = n
      · rw [if_pos e, if_pos (by rw [e])]
      · rw [if_neg e, if_neg (nI_ne (by omega) (by omega) e)]
    rw [c_Canal_readFrom_54 er, g_Canal_readFrom_57]
    by_cases e : p = n
    · rw [if_pos e, if_neg (by decide), e65]
      have a2 : Ag [193] ρ (uI ρ 193 (nI n)) := Ag.I Ag.rf rfl
      refine (C_kinds (d := d + 2) (σ := uI ρ 193 (nI n)) (n := n) (by omega) I_S).im (fun τ y ⟨k1, k2, k3⟩ => Or.inr ⟨(aρ.wk rfl).tr ((a2.wk rfl).tr (k1.wk rfl)), k2, by omega, e, (k1.1 193 rfl).trans I_S, fun i hi => ?_⟩)
      rw [k3 i hi]
      show vp_nar .char (sA ρ 2 i) = _
      rw [aρ.2.1 2 rfl]
    · rw [if_neg e, if_pos rfl]
      exact RnI.mk (Or.inl ⟨aρ, rfl, q2, Or.inr e⟩)
theorem C_ans {g v : Int32} : ev (d + 2) 222 0 [(0, .ref 0), (1, .int g), (2, .int v)] [] (mkH σ) = rI (uI (uI (uI σ 65 0) 66 0) 67 0) (if g = 0 then -1 - sI σ 66 else v) := by
  rw [g_Main_answerOfReading_0, c_Main_answerOfReading_12 (g_Script_clear_0 (d := d)), g_Main_answerOfReading_15, m1]
  split <;> rfl
theorem C_drop : RnV (ev (d + 1) 184 0 [(0, .ref 37)] [] (mkH σ)) (fun τ => Ag [2371, 10039] σ τ ∧ sI τ 2371 = 0 ∧ ∀ i, i < 2 → sA τ 39 i = 0) := by
  rw [g_Past_dropAll_0]
  refine lpG (α := Sg) (n := 2) (P := fun k ρ => Ag [2371, 10039] σ ρ ∧ sI ρ 2371 = 0 ∧ ∀ i, i < k → sA ρ 39 i = 0)
    (f := fun k ρ => ev (d + 1) 184 7 [(0, .ref 37), (1, .int (nI k))] [] (mkH ρ)) (Q := fun o => RnV o _) ?_ ?_ 2 0 (uI σ 2371 0) (by omega) ⟨Ag.I Ag.rf rfl, I_S, fun i hi => absurd hi (Nat.not_lt_zero i)⟩
  · rintro k ρ hk ⟨p1, p2, p3⟩ nx
    show RnV (ev (d + 1) 184 7 [(0, .ref 37), (1, .int (nI k))] [] (mkH ρ)) _
    rw [g_Past_dropAll_7, if_neg (show ¬ (2 : Int32) ≤ nI k from nI_ge (a := k) (b := 2) hk (by decide)), ixn (k := k) (by omega) (by decide), cond_true, cln (n := k) (by omega), nI_1, nar0]
    refine nx _ ⟨Ag.A p1 rfl, p2, fun i hi => ?_⟩
    show upd (sA ρ 39) k _ i = _
    by_cases e : i = k
    · subst e; rw [upS]
    · rw [upN e]; exact p3 i (by omega)
  · rintro ρ ⟨p1, p2, p3⟩
    show RnV (ev (d + 1) 184 7 [(0, .ref 37), (1, .int (nI 2))] [] (mkH ρ)) _
    rw [g_Past_dropAll_7, if_pos (by decide)]
    exact RnV.mk ⟨p1, p2, p3⟩
/-! .. and the reference -/
def kTm : List Nat := [3214, 3215, 10056]
theorem M_bad {i : Nat} {c v : Int32} (h : RD σ T n 30 i) (hw : sI σ 3215 = nI i) (hi : i ≤ 31) {v : Int32} : RnI (ev (d + 5) 31 13 [(0, .ref 50), (1, .int x)] [] (mkH (uI (uA σ 56 i v) 3214 (nI (i + 1))))) (fun τ y => Ag kTm σ τ ∧ y = -1 - nI i) := by
  have a1 : Ag kTm σ (uI (uA σ 56 i v) 3214 (nI (i + 1))) := Ag.I (Ag.A Ag.rf rfl) rfl
  have a0 : Ag [10056] σ (uA σ 56 i v) := Ag.A Ag.rf rfl
  have h2 : RD (uI (uA σ 56 i v) 3214 (nI (i + 1))) T n 30 (i + 1) := (h.ag a0 rfl).nx (by omega) rfl
  have hw2 : ¬ sI (uI (uA σ 56 i v) 3214 (nI (i + 1))) 3215 = -1 := by
    show ¬ sI σ 3215 = -1
    rw [hw]; exact nI_nm1 (by omega)
  rw [g_Model_canal_13, c_Model_canal_14 (N_fine0 hw2), g_Model_canal_17, if_pos rfl, c_Model_canal_116 (N_right0 (d := d + 1) h2 hw2), g_Model_canal_119, if_pos rfl, m1]
  refine RnI.mk ⟨a1, ?_⟩
  show -1 - sI σ 3215 = _
  rw [hw]
theorem M_scan (hn : n ≤ 80) : ∀ (k i : Nat) (ρ : Sg), i + k = min n 30 → RD ρ T n 30 i → sI ρ 3215 = -1 → (∀ j, j < i → sA ρ 56 j = kdF (T j)) →
    ((ldF T k i < 4 ∨ ldF T k i ≠ n) → RnI (ev (d + 5) 31 13 [(0, .ref 50), (1, .int (nI i))] [] (mkH ρ)) (fun τ y => Ag kTm ρ τ ∧ y = -1 - nI (ldF T k i))) ∧
    ((4 ≤ n ∧ ldF T k i = n) → ∃ τ, Ag kTm ρ τ ∧ (∀ j, j < n → sA τ 56 j = kdF (T j)) ∧ ev (d + 5) 31 13 [(0, .ref 50), (1, .int (nI i))] [] (mkH ρ) = ev (d + 5) 31 136 [(0, .ref 50), (1, .int (nI n)), (2, .int 0)] [] (mkH (uI τ 3201 (nI n)))) := by
  intro k
  induction k with
  | zero =>
    intro i ρ hi h hw hc
    have he : heF T (min n 30) i = -1 := if_neg (by omega)
    show ((i < 4 ∨ i ≠ n) → RnI _ (fun τ y => Ag kTm ρ τ ∧ y = -1 - nI i)) ∧ ((4 ≤ n ∧ i = n) → _)
    rw [g_Model_canal_13, c_Model_canal_14 (N_fine1 hw), g_Model_canal_17, if_neg (by decide)]
    rcases Nat.lt_or_ge i 4 with z | z
    · refine ⟨fun _ => ?_, fun q => by omega⟩
      rw [if_pos (show nI i < (4 : Int32) from nI_lt (a := i) (b := 4) z (by decide)), c_Model_canal_34 (N_here h), he, g_Model_canal_37, if_neg (by decide), if_neg (by decide), c_Model_canal_55 N_inF, g_Model_canal_58, if_pos (by decide), h.2.2.1, c_Model_canal_66 (N_fault1 hw), g_Model_canal_69, if_neg (by decide), if_neg (by decide), ixn (k := i) (n := 57) (by omega) (by decide), cond_true, cln (n := i) (by omega), show sI (uI ρ 3215 (nI i)) 3214 = nI i from h.2.2.1, nI_1]
      have a1 : Ag [3215] ρ (uI ρ 3215 (nI i)) := Ag.I Ag.rf rfl
      exact (M_bad (d := d) (c := 0) (v := 0) (h.ag a1 rfl) I_S (by omega)).im (fun τ y ⟨e1, e2⟩ => ⟨(a1.wk rfl).tr e1, e2⟩)
    · rw [if_neg (show ¬ nI i < (4 : Int32) from nI_nlt (a := i) (b := 4) z (by omega)), c_Model_canal_26 (N_here h), he, g_Model_canal_29, if_pos (by decide)]
      rcases Nat.lt_or_ge i n with y | y
      · refine ⟨fun _ => ?_, fun q => by omega⟩
        rw [c_Model_canal_116 (N_right2 (d := d + 1) h hw y), g_Model_canal_119, if_pos rfl, m1]
        exact RnI.mk ⟨Ag.I Ag.rf rfl, by rw [I_S]⟩
      · have hin : i = n := by omega
        refine ⟨fun q => by omega, fun _ => ⟨ρ, Ag.rf, fun j hj => hc j (by omega), ?_⟩⟩
        rw [c_Model_canal_116 (N_right1 (d := d + 1) h hw y), g_Model_canal_119, if_neg (by decide), hin]
  | succ k ih =>
    intro i ρ hi h hw hc
    have he : heF T (min n 30) i = T i := if_pos (by omega)
    have pre : ev (d + 5) 31 13 [(0, .ref 50), (1, .int (nI i))] [] (mkH ρ) = ev (d + 5) 31 37 [(0, .ref 50), (1, .int (nI i))] [.int (T i)] (mkH ρ) ∨ T i = -1 := by
      by_cases e : T i = -1
      · exact Or.inr e
      · refine Or.inl ?_
        rw [g_Model_canal_13, c_Model_canal_14 (N_fine1 hw), g_Model_canal_17, if_neg (by decide)]
        split
        · rw [c_Model_canal_34 (N_here h), he]
        · rw [c_Model_canal_26 (N_here h), he, g_Model_canal_29, if_neg (fun q => e (q.trans (by decide))), c_Model_canal_34 (N_here h), he]
    have hT : ¬ T i = -1 := by
      intro e
      obtain ⟨_, _, _, _, _, _, h7⟩ := h
      have hq : ∃ y : Int32, y &&& 255 = T i := by
        rcases h7 with ⟨_, _, q⟩ | ⟨u, _, _, q⟩
        · exact ⟨_, (q i (by omega)).1⟩
        · exact ⟨_, (q i (by omega)).1⟩
      obtain ⟨y, hy⟩ := hq
      rw [e] at hy
      have := congrArg (fun z : Int32 => z.toBitVec.getLsbD 8) hy
      simp at this
    have pre := pre.resolve_right hT
    unfold ldF
    cases hg : goodC (T i) with
    | true =>
      rw [cond_true]
      have a1 : Ag kTm ρ (uI (uA ρ 56 i (kdF (T i))) 3214 (nI (i + 1))) := Ag.I (Ag.A Ag.rf rfl) rfl
      have a0 : Ag [10056] ρ (uA ρ 56 i (kdF (T i))) := Ag.A Ag.rf rfl
      have nxt := ih (i + 1) (uI (uA ρ 56 i (kdF (T i))) 3214 (nI (i + 1))) (by omega) ((h.ag a0 rfl).nx (by omega) rfl) hw (fun j hj => by
        show upd (sA ρ 56) i _ j = _
        by_cases e : j = i
        · subst e; rw [upS]
        · rw [upN e]; exact hc j (by omega))
      have e : ev (d + 5) 31 37 [(0, .ref 50), (1, .int (nI i))] [.int (T i)] (mkH ρ) = ev (d + 5) 31 13 [(0, .ref 50), (1, .int (nI (i + 1)))] [] (mkH (uI (uA ρ 56 i (kdF (T i))) 3214 (nI (i + 1)))) := by
        rw [g_Model_canal_37, h.2.2.1, ixn (k := i) (n := 57) (by omega) (by decide), cond_true, cond_true, cond_true, cln (n := i) (by omega), nI_1]
        unfold goodC at hg
        unfold kdF
        by_cases e1 : T i = 46
        · rw [if_pos e1, if_pos e1, if_pos e1]
        · rw [if_neg e1, if_neg e1, if_neg e1]
          by_cases e2 : T i = 98
          · rw [if_pos e2, if_pos e2, if_pos e2, m1]
          · rw [if_neg e2, if_neg e2]
            rw [beq_f e1, beq_f e2, Bool.false_or, Bool.false_or, Bool.and_eq_true] at hg
            have g1 : ¬ T i < 49 := fun z => by rw [decide_eq_true z] at hg; cases hg.1
            have g2 : ¬ 57 < T i := fun z => by rw [decide_eq_true z] at hg; cases hg.2
            have hin : inF (T i) 49 57 = 1 := by unfold inF; rw [if_neg g1, if_neg g2]
            rw [c_Model_canal_55 N_inF, g_Model_canal_58, hin, if_neg (by decide), if_neg e1, if_neg e2, h.2.2.1, ixn (k := i) (n := 57) (by omega) (by decide), cond_true, cln (n := i) (by omega), nI_1]
      rw [pre, e]
      exact ⟨fun q => (nxt.1 q).im (fun τ y ⟨k1, k2⟩ => ⟨a1.tr k1, k2⟩), fun q => by
        obtain ⟨τ, k1, k2, k3⟩ := nxt.2 q
        exact ⟨τ, a1.tr k1, k2, k3⟩⟩
    | false =>
      rw [cond_false]
      refine ⟨fun _ => ?_, fun q => by omega⟩
      rw [pre, g_Model_canal_37]
      unfold goodC at hg
      rw [Bool.or_eq_false_iff, Bool.or_eq_false_iff] at hg
      have e1 : ¬ T i = 46 := fun z => by rw [beq_t z] at hg; cases hg.1
      have e2 : ¬ T i = 98 := fun z => by rw [beq_t z] at hg; cases hg.2.1
      have hin : inF (T i) 49 57 = 0 := by
        unfold inF
        by_cases g1 : T i < 49
        · rw [if_pos g1]
        · rw [if_neg g1]
          by_cases g2 : 57 < T i
          · rw [if_pos g2]
          · rw [decide_eq_false g1, decide_eq_false g2] at hg
            cases hg.2.2
      rw [if_neg e1, if_neg e2, c_Model_canal_55 N_inF, g_Model_canal_58, hin, if_pos rfl, h.2.2.1, c_Model_canal_66 (N_fault1 hw), g_Model_canal_69, if_neg e1, if_neg e2, ixn (k := i) (n := 57) (by omega) (by decide), cond_true, cln (n := i) (by omega), show sI (uI ρ 3215 (nI i)) 3214 = nI i from h.2.2.1, nI_1]
      have a1 : Ag [3215] ρ (uI ρ 3215 (nI i)) := Ag.I Ag.rf rfl
      exact (M_bad (d := d) (c := 0) (v := 0) (h.ag a1 rfl) I_S (by omega)).im (fun τ y ⟨e1, e2⟩ => ⟨(a1.wk rfl).tr e1, e2⟩)
theorem M_cells {n : Nat} (hn : n ≤ 30) : RnI (ev (d + 2) 31 136 [(0, .ref 50), (1, .int (nI n)), (2, .int 0)] [] (mkH σ)) (fun τ y => Ag [10052, 3202, 3203, 10051, 3223, 3239] σ τ ∧ y = nI n ∧ (∀ i, i < n → sA τ 52 i = sA σ 56 i) ∧ sI τ 3202 = 0 ∧ sI τ 3203 = 0 ∧ sA τ 51 43 = 0 ∧ sI τ 3223 = 0 ∧ sI τ 3239 = sI σ 3239 + 1) := by
  refine lpG (α := Sg) (n := n) (P := fun k ρ => Ag [10052] σ ρ ∧ ∀ i, i < k → sA ρ 52 i = sA σ 56 i)
    (f := fun k ρ => ev (d + 2) 31 136 [(0, .ref 50), (1, .int (nI n)), (2, .int (nI k))] [] (mkH ρ)) (Q := fun o => RnI o _) ?_ ?_ n 0 σ (by omega) ⟨Ag.rf, fun i hi => absurd hi (Nat.not_lt_zero i)⟩
  · rintro k ρ hk ⟨p1, p2⟩ nx
    show RnI (ev (d + 2) 31 136 [(0, .ref 50), (1, .int (nI n)), (2, .int (nI k))] [] (mkH ρ)) _
    rw [g_Model_canal_136, if_neg (nI_ge hk (by omega)), ixn (k := k) (n := 57) (by omega) (by decide), cond_true, ixn (k := k) (n := 30) (by omega) (by decide), cond_true, cln (n := k) (by omega), nI_1, p1.2.1 56 rfl]
    refine nx _ ⟨Ag.A p1 rfl, fun i hi => ?_⟩
    show upd (sA ρ 52) k _ i = _
    by_cases e : i = k
    · subst e; rw [upS]
    · rw [upN e]; exact p2 i (by omega)
  · rintro ρ ⟨p1, p2⟩
    show RnI (ev (d + 2) 31 136 [(0, .ref 50), (1, .int (nI n)), (2, .int (nI n))] [] (mkH ρ)) _
    rw [g_Model_canal_136, if_pos (nI_le (Nat.le_refl _) (by omega)), c_Model_canal_178 (g_Model_told_0 (d := d)), g_Model_canal_181]
    refine RnI.mk ⟨(p1.wk rfl).tr (Ag.I (Ag.I (Ag.A (Ag.I (Ag.I Ag.rf rfl) rfl) rfl) rfl) rfl), rfl, p2, rfl, rfl, rfl, rfl, ?_⟩
    show sI ρ 3239 + 1 = _
    rw [p1.1 3239 rfl]
theorem Ke.new {W W' : Wd} (h : Ke W k σ) (hk : k < 2560) (g : Ag K σ τ) (hK : dj K [10072, 10073] = true) (h39 : ∀ i, i < 2 → sA τ 39 i = 0) (h3 : sI τ 3239 = sI σ 3239 + 1) : Ke W' (k + 1) τ := by
  obtain ⟨c, c1, c2, c3⟩ := h
  refine ⟨c + 1, by omega, by rw [h3, c2, nI_1], fun i hi => ?_⟩
  rw [g.2.1 72 (dj_m hK (by decide)), g.2.1 73 (dj_m hK (by decide))]
  obtain ⟨d1, d2, _⟩ := c3 i hi
  refine ⟨d1, fun z => ?_, Or.inl ⟨h39 i hi, fun z => ?_⟩⟩
  · obtain ⟨e, e1, e2⟩ := d2 z
    exact ⟨e, by omega, e2⟩
  · obtain ⟨e, e1, e2⟩ := d2 z.1
    rw [e2] at z
    exact nI_ne (a := e) (b := c + 1) (by omega) (by omega) (by omega) z.2
theorem Pa.new {W W' : Wd} (h : Pa W σ) (g : Ag K σ τ) (hK : dj K [2370] = true) (h1 : sI τ 2371 = 0) (h2 : sI τ 3223 = 0) : Pa W' τ := by
  obtain ⟨x, _, p1, _, p3, _⟩ := h
  exact ⟨x, 0, p1, by omega, (g.1 2370 (dj_m hK (by decide))).trans p3, h1, h2, fun j hj => absurd hj (Nat.not_lt_zero j)⟩
theorem op_canal : Op_canal 400 INV := by
  intro d hd k σ hk h
  obtain ⟨d, rfl⟩ : ∃ e, d = e + 10 := ⟨d - 10, by omega⟩
  have h0 := h
  obtain ⟨W, f, ⟨c, m, b3, b2⟩, ⟨n, n1, n2, n3, n4⟩, to, go, pa, ke⟩ := h
  obtain ⟨τ, y, e1, e2⟩ := C_read (d := d + 6) n1 n2
  rcases e2 with ⟨a1, rfl, q1, q2⟩ | ⟨a1, rfl, q1, q2, q3, q4⟩
  · have aσ1 : Ag [65, 66, 67] σ (uI (uI (uI τ 65 0) 66 0) 67 0) := (a1.wk rfl).tr (Ag.I (Ag.I (Ag.I Ag.rf rfl) rfl) rfl)
    have hcl : ev (d + 10) 218 0 [(0, .ref 0)] [] (mkH σ) = rI (uI (uI (uI τ 65 0) 66 0) 67 0) (-1 - nI (ldF (sA σ 2) (min n 30) 0)) := by
      rw [g_Main_canal_0, c_Main_canal_8 e1, g_Main_canal_11, if_pos rfl, c_Main_canal_39 (C_ans (d := d + 7)), g_Main_canal_42, if_pos rfl, q1]
    have e65 : sI (uI (uI (uI τ 65 0) 66 0) 67 0) 65 = nI 0 := rfl
    generalize uI (uI (uI τ 65 0) 66 0) 67 0 = σ1 at aσ1 hcl e65
    have a0 : Ag [3210] σ1 (uI σ1 3210 0) := Ag.I Ag.rf rfl
    obtain ⟨ρ, t1, t2, t3, t4, t5⟩ := N_text (d := d + 7) (k := 0) (σ := uI σ1 3210 0) (T := sA σ 2) (m := 30) (x := 30) n1 ((aσ1.1 3207 rfl).trans n3) (fun i hi => by
      show bT (sA σ1 54 i) _
      rw [aσ1.2.1 54 rfl]; exact n4 i hi) (by omega) rfl
    obtain ⟨σ2, y, r1, r2, r3⟩ := (M_scan (d := d + 5) (T := sA σ 2) n1 (min n 30) 0 ρ (by omega) t3 t4 (fun j hj => absurd hj (Nat.not_lt_zero j))).1 q2
    have hml : ev (d + 10) 31 0 [(0, .ref 50)] [] (mkH σ1) = rI σ2 y := by
      rw [g_Model_canal_0, c_Model_canal_8 t1, g_Model_canal_11]; exact r1
    have aσ2 : Ag ([3210] ++ kT ++ kTm) σ1 σ2 := (a0.wk rfl).tr ((t2.wk rfl).tr (r2.wk rfl))
    have aa : Ag ([65, 66, 67] ++ ([3210] ++ kT ++ kTm)) σ σ2 := (aσ1.wk rfl).tr (aσ2.wk rfl)
    rw [r3] at hml
    refine ⟨σ1, σ2, _, hcl, hml, aσ1.2.2.2.2.2.2, aa.2.2.2.2.2.2, aa.2.2.2.2.2.1, ?_⟩
    exact h0.of (c.ag aa rfl) (m.ag aa rfl) (aa.2.2.2.1 3 rfl) (aa.2.2.2.1 2 rfl) (aa.2.2.2.1 0 rfl) ⟨0, by omega, (aσ2.1 65 rfl).trans e65, (r2.1 3207 rfl).trans t5, fun i hi => absurd hi (Nat.not_lt_zero i)⟩ (to.ag aa rfl rfl) (go.ag aa rfl) (pa.ag aa rfl) (ke.ag aa rfl).mono
  · obtain ⟨τ2, u1, u2, u3, u4⟩ := C_drop (d := d + 8) (σ := uI (uI (uI τ 325 0) 334 0) 322 0)
    have aE : Ag [325, 334, 322] τ (uI (uI (uI τ 325 0) 334 0) 322 0) := Ag.I (Ag.I (Ag.I Ag.rf rfl) rfl) rfl
    have aC : Ag [65, 66, 67] τ2 (uI (uI (uI τ2 65 0) 66 0) 67 0) := Ag.I (Ag.I (Ag.I Ag.rf rfl) rfl) rfl
    have aσ1 : Ag [65, 66, 67, 193, 10004, 325, 334, 322, 2371, 10039] σ (uI (uI (uI τ2 65 0) 66 0) 67 0) := (a1.wk rfl).tr ((aE.wk rfl).tr ((u2.wk rfl).tr (aC.wk rfl)))
    have s93 : sI τ2 193 = nI n := (u2.1 193 rfl).trans ((aE.1 193 rfl).trans q3)
    have hcl : ev (d + 10) 218 0 [(0, .ref 0)] [] (mkH σ) = rI (uI (uI (uI τ2 65 0) 66 0) 67 0) (nI n) := by
      rw [g_Main_canal_0, c_Main_canal_8 e1, g_Main_canal_11, if_neg (by decide), c_Main_canal_20 (g_Fleet_empty_0 (d := d + 8)), g_Main_canal_23, c_Main_canal_27 u1, g_Main_canal_30, c_Main_canal_39 (C_ans (d := d + 7)), g_Main_canal_42, if_neg (by decide), s93]
    have e65 : sI (uI (uI (uI τ2 65 0) 66 0) 67 0) 65 = nI 0 := rfl
    have e325 : sI (uI (uI (uI τ2 65 0) 66 0) 67 0) 325 = nI 0 := (aC.1 325 rfl).trans ((u2.1 325 rfl).trans rfl)
    have e334 : sI (uI (uI (uI τ2 65 0) 66 0) 67 0) 334 = nI 0 := (aC.1 334 rfl).trans ((u2.1 334 rfl).trans rfl)
    have e322 : sI (uI (uI (uI τ2 65 0) 66 0) 67 0) 322 = 0 := (aC.1 322 rfl).trans ((u2.1 322 rfl).trans rfl)
    have e193 : sI (uI (uI (uI τ2 65 0) 66 0) 67 0) 193 = nI n := (aC.1 193 rfl).trans s93
    have e71 : sI (uI (uI (uI τ2 65 0) 66 0) 67 0) 2371 = 0 := (aC.1 2371 rfl).trans u3
    have e39 : ∀ i, i < 2 → sA (uI (uI (uI τ2 65 0) 66 0) 67 0) 39 i = 0 := u4
    have e4 : ∀ i, i < n → sA (uI (uI (uI τ2 65 0) 66 0) 67 0) 4 i = vp_nar .char (sA σ 2 i) := fun i hi => by
      show sA τ2 4 i = _
      rw [u2.2.1 4 rfl]; exact q4 i hi
    generalize uI (uI (uI τ2 65 0) 66 0) 67 0 = σ1 at aσ1 hcl e65 e325 e334 e322 e193 e71 e39 e4
    have hp := ld_le (t := sA σ 2) (min n 30) 0
    rw [q2] at hp
    have a0 : Ag [3210] σ1 (uI σ1 3210 0) := Ag.I Ag.rf rfl
    obtain ⟨ρ, t1, t2, t3, t4, t5⟩ := N_text (d := d + 7) (k := 0) (σ := uI σ1 3210 0) (T := sA σ 2) (m := 30) (x := 30) n1 ((aσ1.1 3207 rfl).trans n3) (fun i hi => by
      show bT (sA σ1 54 i) _
      rw [aσ1.2.1 54 rfl]; exact n4 i hi) (by omega) rfl
    obtain ⟨ω, r1, r2, r3⟩ := (M_scan (d := d + 5) (T := sA σ 2) n1 (min n 30) 0 ρ (by omega) t3 t4 (fun j hj => absurd hj (Nat.not_lt_zero j))).2 ⟨q1, q2⟩
    have aW : Ag [3201] ω (uI ω 3201 (nI n)) := Ag.I Ag.rf rfl
    obtain ⟨σ2, y, v1, v2, rfl, v4, v5, v6, v7, v8, v9⟩ := M_cells (d := d + 8) (σ := uI ω 3201 (nI n)) (n := n) (by omega)
    have hml : ev (d + 10) 31 0 [(0, .ref 50)] [] (mkH σ1) = rI σ2 (nI n) := by
      rw [g_Model_canal_0, c_Model_canal_8 t1, g_Model_canal_11]
      exact r3.trans v1
    have aσ2 : Ag ([3210] ++ kT ++ kTm ++ [3201, 10052, 3202, 3203, 10051, 3223, 3239]) σ1 σ2 := (a0.wk rfl).tr ((t2.wk rfl).tr ((r1.wk rfl).tr ((aW.wk rfl).tr (v2.wk rfl))))
    have aa : Ag ([65, 66, 67, 193, 10004, 325, 334, 322, 2371, 10039] ++ ([3210] ++ kT ++ kTm ++ [3201, 10052, 3202, 3203, 10051, 3223, 3239])) σ σ2 := (aσ1.wk rfl).tr (aσ2.wk rfl)
    have good : ∀ i, i < n → goodC (sA σ 2 i) = true := fun i hi => hp.2.2 i (Nat.zero_le i) hi
    have hWO : WO ((0, 0, n), (fun i => kdF (sA σ 2 i)), wl W, wV W) := ⟨Nat.zero_le _, Nat.zero_le _, q1, (by have := hp.2.1; show n ≤ 30; omega), fun i hi => (good_ck (good i hi)).2, fun i hi => absurd hi (Nat.not_lt_zero i)⟩
    have hOK : OK ((0, 0, n), (fun i => kdF (sA σ 2 i)), wl W, wV W) (fun _ => 0) := ⟨fun i hi => absurd hi (Nat.not_lt_zero i), fun i hi => absurd hi (Nat.not_lt_zero i)⟩
    refine ⟨σ1, σ2, nI n, hcl, hml, aσ1.2.2.2.2.2.2, aa.2.2.2.2.2.2, aa.2.2.2.2.2.1, ?_⟩
    refine h0.of (W := ((0, 0, n), (fun i => kdF (sA σ 2 i)), wl W, wV W)) (f' := fun _ => 0) ⟨hWO, hOK, ⟨(aσ2.1 325 rfl).trans e325, (aσ2.1 334 rfl).trans e334, fun i hi => absurd hi (Nat.not_lt_zero i)⟩, ⟨(aσ2.1 193 rfl).trans e193, fun i hi => ?_⟩, ⟨fun i hi => absurd hi (Nat.not_lt_zero i), fun i hi => absurd hi (Nat.not_lt_zero i), (aσ2.1 322 rfl).trans e322⟩, ?_⟩ ⟨hWO, hOK, ⟨v5, v6, (v2.1 3201 rfl).trans I_S, fun i hi => ?_, fun i hi => absurd hi (Nat.not_lt_zero i)⟩, ⟨fun i hi => absurd hi (Nat.not_lt_zero i), fun i hi => absurd hi (Nat.not_lt_zero i), v7⟩, m.2.2.2.2.ag aa rfl⟩ (aa.2.2.2.1 3 rfl) (aa.2.2.2.1 2 rfl) (aa.2.2.2.1 0 rfl) ⟨0, by omega, (aσ2.1 65 rfl).trans e65, (v2.1 3207 rfl).trans ((r1.1 3207 rfl).trans t5), fun i hi => absurd hi (Nat.not_lt_zero i)⟩ (to.ag aa rfl rfl) (go.ag aa rfl) (pa.new aa rfl ((aσ2.1 2371 rfl).trans e71) v8) (ke.new hk aa rfl (fun i hi => by rw [aσ2.2.1 39 rfl]; exact e39 i hi) (v9.trans ?_))
    · rw [aσ2.2.1 4 rfl, e4 i hi]; exact (good_ck (good i hi)).1
    · rw [aa.2.2.2.1 0 rfl]; exact c.2.2.2.2.2.ag aa (by cases sB σ 0 <;> rfl)
    · rw [v4 i hi]; exact r2 i hi
    · show sI ω 3239 + 1 = _
      rw [r1.1 3239 rfl, t2.1 3239 rfl]
      show sI σ1 3239 + 1 = _
      rw [aσ1.1 3239 rfl]
end CN
