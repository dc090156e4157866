/-! end, sign, rests, blows -/
section GM
variable {d m x k : Nat} {σ τ : Sg} {W : Wd} {f g : Nat → Int32} {K : List Nat}
theorem op_end : Op_end 400 INV := by
  intro d hd k σ x _ h
  obtain ⟨d, rfl⟩ : ∃ e, d = e + 10 := ⟨d - 10, by omega⟩
  have h0 := h
  obtain ⟨W, f, ⟨c, m, b3, b2⟩, ⟨n, n1, n2, n3, n4⟩, to, go, pa, ke⟩ := h
  have a0 : Ag [3210] σ (uI σ 3210 0) := Ag.I Ag.rf rfl
  by_cases hx : x < 0
  · refine ⟨σ, uI σ 3210 0, 0, ?_, ?_, rfl, rfl, rfl, h0.keep a0 (to.ag a0 rfl rfl) (by decide) (by decide) (by decide) (by decide) (by decide) (by decide) (by decide)⟩
    · have e1 : ev (d + 9) 201 0 [(0, .ref 1), (1, .int x)] [] (mkH σ) = rI σ 0 := by rw [g_Script_cut_0, if_pos hx]
      rw [g_Main_end_0, c_Main_end_5 e1, g_Main_end_8, if_pos (Or.inl rfl)]
    · rw [g_Model_end_0, c_Model_end_11 N_inF, g_Model_end_14]
      have : inF x 0 (sI σ 3207) = 0 := by unfold inF; rw [if_pos hx]
      rw [this, if_pos rfl]
  · obtain ⟨j, hj, rfl⟩ := nI_of hx
    by_cases hjn : j ≤ n
    · have a1 : Ag [65, 3210, 3207] σ (uI (uI (uI σ 65 (nI j)) 3210 0) 3207 (nI j)) := Ag.I (Ag.I (Ag.I Ag.rf rfl) rfl) rfl
      refine ⟨uI σ 65 (nI j), uI (uI (uI σ 65 (nI j)) 3210 0) 3207 (nI j), 1, ?_, ?_, rfl, rfl, rfl, ?_⟩
      · have e1 : ev (d + 9) 201 0 [(0, .ref 1), (1, .int (nI j))] [] (mkH σ) = rI (uI σ 65 (nI j)) 1 := by rw [g_Script_cut_0, if_neg hx, n2, if_pos (nI_le hjn (by omega))]
        rw [g_Main_end_0, c_Main_end_5 e1, g_Main_end_8, if_pos (Or.inr rfl)]
      · rw [g_Model_end_0, c_Model_end_11 N_inF, g_Model_end_14]
        have : inF (nI j) 0 (sI (uI σ 65 (nI j)) 3207) = 1 := by
          rw [show sI (uI σ 65 (nI j)) 3207 = nI n from n3]
          unfold inF; rw [if_neg hx, if_neg (nI_nlt (by omega) (by omega))]
        rw [this, if_neg (by decide)]
      · exact h0.of (c.ag a1 rfl) (m.ag a1 rfl) rfl rfl rfl ⟨j, by omega, rfl, rfl, fun i hi => n4 i (by omega)⟩ (to.ag a1 rfl rfl) (go.ag a1 rfl) (pa.ag a1 rfl) (ke.ag a1 rfl).mono
    · refine ⟨σ, uI σ 3210 0, 0, ?_, ?_, rfl, rfl, rfl, h0.keep a0 (to.ag a0 rfl rfl) (by decide) (by decide) (by decide) (by decide) (by decide) (by decide) (by decide)⟩
      · have e1 : ev (d + 9) 201 0 [(0, .ref 1), (1, .int (nI j))] [] (mkH σ) = rI σ 0 := by rw [g_Script_cut_0, if_neg hx, n2, if_neg (nI_ge (by omega) (by omega))]
        rw [g_Main_end_0, c_Main_end_5 e1, g_Main_end_8, if_pos (Or.inl rfl)]
      · rw [g_Model_end_0, c_Model_end_11 N_inF, g_Model_end_14]
        have : inF (nI j) 0 (sI σ 3207) = 0 := by rw [n3]; unfold inF; rw [if_neg hx, if_pos (nI_lt (by omega) (by omega))]
        rw [this, if_pos rfl]
/-! rests -/
def gaF (a b t : Int32) : Int32 := if a = b then (a - t) / 2 else if b ≤ a then 0 else a - t
def bsB (a b t : Int32) : Bool := allF (fun i => decide (gaF (nI i) b t ≤ gaF a b t)) 10
theorem C_ga {a b t : Int32} : ev (d + 1) 174 0 [(0, .int a), (1, .int b), (2, .int t)] [] (mkH σ) = rI σ (gaF a b t) := by
  rw [g_Games_gain_0]; unfold gaF
  split
  · rfl
  · split <;> rfl
theorem M_ga {a b t : Int32} : ev (d + 1) 112 0 [(0, .int a), (1, .int b), (2, .int t)] [] (mkH σ) = rI σ (gaF a b t) := by
  rw [g_Model_gains_0]; unfold gaF
  by_cases e : a = b
  · rw [if_pos (by rw [e]; exact Int32.le_refl _), if_pos e, if_pos e]
  · rw [if_neg e, if_neg e]
    split <;> rfl
theorem C_bs {a b t : Int32} : ev (d + 2) 173 0 [(0, .int a), (1, .int b), (2, .int t)] [] (mkH σ) = rI σ (bif bsB a b t then 1 else 0) := by
  rw [g_Games_isBestAgainst_0]
  have key : ∀ j i, i + j = 10 → allF (fun i => decide (gaF (nI i) b t ≤ gaF a b t)) i = true → ev (d + 2) 173 2 [(0, .int a), (1, .int b), (2, .int t), (3, .int (nI i))] [] (mkH σ) = rI σ (bif bsB a b t then 1 else 0) := by
    intro j
    induction j with
    | zero =>
      intro i hi ha
      have : i = 10 := by omega
      subst this
      unfold bsB
      rw [g_Games_isBestAgainst_2, if_pos (by decide), ha]; rfl
    | succ j ih =>
      intro i hi ha
      rw [g_Games_isBestAgainst_2, if_neg (show ¬ (9 : Int32) < nI i from nI_nlt (a := 9) (b := i) (by omega) (by omega)), c_Games_isBestAgainst_11 C_ga, g_Games_isBestAgainst_14, c_Games_isBestAgainst_17 C_ga, g_Games_isBestAgainst_20, nI_1]
      by_cases hq : gaF (nI i) b t ≤ gaF a b t
      · rw [if_pos hq]
        exact ih (i + 1) (by omega) (by show (allF _ i && decide (gaF (nI i) b t ≤ gaF a b t)) = true; rw [ha, decide_eq_true hq]; rfl)
      · rw [if_neg hq]
        have : allF (fun i => decide (gaF (nI i) b t ≤ gaF a b t)) (i + 1) = false := by show (allF _ i && decide (gaF (nI i) b t ≤ gaF a b t)) = false; rw [decide_eq_false hq, Bool.and_false]
        have h2 := all_no this j
        rw [show i + 1 + j = 10 by omega] at h2
        unfold bsB
        rw [h2]; rfl
  exact key 10 0 rfl rfl
theorem M_bs {a b t : Int32} : ev (d + 2) 113 0 [(0, .int a), (1, .int b), (2, .int t)] [] (mkH σ) = rI σ (bif bsB a b t then 1 else 0) := by
  rw [g_Model_isBest_0]
  have key : ∀ j i, i + j = 10 → allF (fun i => decide (gaF (nI i) b t ≤ gaF a b t)) i = true → ev (d + 2) 113 2 [(0, .int a), (1, .int b), (2, .int t), (3, .int (nI i))] [] (mkH σ) = rI σ (bif bsB a b t then 1 else 0) := by
    intro j
    induction j with
    | zero =>
      intro i hi ha
      have : i = 10 := by omega
      subst this
      unfold bsB
      rw [g_Model_isBest_2, if_pos (by decide), ha]; rfl
    | succ j ih =>
      intro i hi ha
      rw [g_Model_isBest_2, if_neg (show ¬ (9 : Int32) < nI i from nI_nlt (a := 9) (b := i) (by omega) (by omega)), c_Model_isBest_11 M_ga, g_Model_isBest_14, c_Model_isBest_17 M_ga, g_Model_isBest_20, nI_1]
      by_cases hq : gaF (nI i) b t ≤ gaF a b t
      · rw [if_pos hq]
        exact ih (i + 1) (by omega) (by show (allF _ i && decide (gaF (nI i) b t ≤ gaF a b t)) = true; rw [ha, decide_eq_true hq]; rfl)
      · rw [if_neg hq]
        have : allF (fun i => decide (gaF (nI i) b t ≤ gaF a b t)) (i + 1) = false := by show (allF _ i && decide (gaF (nI i) b t ≤ gaF a b t)) = false; rw [decide_eq_false hq, Bool.and_false]
        have h2 := all_no this j
        rw [show i + 1 + j = 10 by omega] at h2
        unfold bsB
        rw [h2]; rfl
  exact key 10 0 rfl rfl
def reG (t : Int32) (i j : Nat) : Bool := bsB (nI i) (nI j) t && bsB (nI j) (nI i) t
def reS (t : Int32) : Nat → Nat × List Int64
  | 0 => (0, [])
  | q + 1 => bif reG t (q / 10) (q % 10) then ((reS t q).1 + 1, bif (reS t q).1 == 0 then [(nI (q / 10)).toInt64, (nI (q % 10)).toInt64] else (reS t q).2) else reS t q
theorem reS_s {t : Int32} {q : Nat} : reS t (q + 1) = bif reG t (q / 10) (q % 10) then ((reS t q).1 + 1, bif (reS t q).1 == 0 then [(nI (q / 10)).toInt64, (nI (q % 10)).toInt64] else (reS t q).2) else reS t q := rfl
theorem reS_b {t : Int32} : ∀ q, (reS t q).1 ≤ q ∧ (reS t q).2.length ≤ 2 ∧ ((reS t q).1 = 0 → (reS t q).2 = [])
  | 0 => ⟨Nat.le_refl _, by show 0 ≤ 2; decide, fun _ => rfl⟩
  | q + 1 => by
    obtain ⟨h1, h2, h3⟩ := reS_b (t := t) q
    unfold reS
    cases reG t (q / 10) (q % 10)
    · exact ⟨by rw [cond_false]; omega, h2, h3⟩
    · rw [cond_true]
      refine ⟨by show (reS t q).1 + 1 ≤ q + 1; omega, ?_, fun z => ?_⟩
      · dsimp only
        cases (reS t q).1 == 0
        · exact h2
        · show 2 ≤ 2; decide
      · exact absurd z (Nat.succ_ne_zero _)
theorem op_rests : Op_rests 400 INV := by
  intro d hd k σ t _ h
  refine q_op (D := 400) (fun W f => if inF t 0 9 = 0 then (-1, none) else (nI (reS t 100).1, some (reS t 100).2)) (fun W f _ _ => by split; exact trivial; show (reS t 100).2.length ≤ 9; have := (reS_b (t := t) 100).2.1; omega) ?_ ?_ hd h
  · intro d σ W f hd h
    obtain ⟨d, rfl⟩ : ∃ e, d = e + 10 := ⟨d - 10, by omega⟩
    rw [g_Main_rests_0, c_Main_rests_4 K_in, g_Main_rests_7]
    by_cases hin : inF t 0 9 = 0
    · simp only [if_pos hin]
      exact RnI.mk ⟨Ag.rf, rfl, ⟨rfl, rfl⟩⟩
    · simp only [if_neg hin]
      obtain ⟨τ0, t1, t2, t3⟩ := T_none (d := d + 8) (σ := σ)
      rw [c_Main_rests_16 t1, g_Main_rests_19]
      refine lpG (α := Sg) (n := 10) (P := fun i ρ => Ag [2817, 20045] σ ρ ∧ TD ρ (reS t (10 * i)).2)
        (f := fun i ρ => ev (d + 10) 265 23 [(0, .ref 0), (1, .int t), (2, .int (nI (reS t (10 * i)).1)), (3, .int (nI i))] [] (mkH ρ)) (Q := fun o => RnI o _) ?_ ?_ 10 0 τ0 (by omega) ⟨t2, t3⟩
      · rintro i ρ hi ⟨p1, p2⟩ nx
        show RnI (ev (d + 10) 265 23 [(0, .ref 0), (1, .int t), (2, .int (nI (reS t (10 * i)).1)), (3, .int (nI i))] [] (mkH ρ)) _
        rw [g_Main_rests_23, if_neg (show ¬ (9 : Int32) < nI i from nI_nlt (a := 9) (b := i) (by omega) (by omega))]
        refine lpG (α := Sg) (n := 10) (P := fun j ρ => Ag [2817, 20045] σ ρ ∧ TD ρ (reS t (10 * i + j)).2)
          (f := fun j ρ => ev (d + 10) 265 32 [(0, .ref 0), (1, .int t), (2, .int (nI (reS t (10 * i + j)).1)), (3, .int (nI i)), (4, .int (nI j))] [] (mkH ρ)) (Q := fun o => RnI o _) ?_ ?_ 10 0 ρ (by omega) ⟨p1, p2⟩
        · rintro j ρ hj ⟨p1, p2⟩ nx2
          show RnI (ev (d + 10) 265 32 [(0, .ref 0), (1, .int t), (2, .int (nI (reS t (10 * i + j)).1)), (3, .int (nI i)), (4, .int (nI j))] [] (mkH ρ)) _
          have hb := reS_b (t := t) (10 * i + j)
          rw [g_Main_rests_32, if_neg (show ¬ (9 : Int32) < nI j from nI_nlt (a := 9) (b := j) (by omega) (by omega)), c_Main_rests_43 C_bs, g_Main_rests_46, nI_1]
          have e : reS t (10 * i + (j + 1)) = bif bsB (nI i) (nI j) t && bsB (nI j) (nI i) t then ((reS t (10 * i + j)).1 + 1, bif (reS t (10 * i + j)).1 == 0 then [(nI i).toInt64, (nI j).toInt64] else (reS t (10 * i + j)).2) else reS t (10 * i + j) := by
            rw [show 10 * i + (j + 1) = 10 * i + j + 1 from rfl, reS_s, show (10 * i + j) / 10 = i by omega, show (10 * i + j) % 10 = j by omega]; rfl
          rw [e] at nx2
          clear e
          generalize reS t (10 * i + j) = S at hb nx2 p2 ⊢
          cases h1 : bsB (nI i) (nI j) t with
          | false => rw [h1] at nx2; rw [cond_false, if_pos rfl]; exact nx2 ρ ⟨p1, p2⟩
          | true =>
            rw [h1, Bool.true_and] at nx2
            rw [cond_true, if_neg (by decide), c_Main_rests_53 C_bs, g_Main_rests_56, nI_1, nI_1]
            cases h2 : bsB (nI j) (nI i) t with
            | false => rw [h2] at nx2; rw [cond_false, if_pos rfl]; exact nx2 ρ ⟨p1, p2⟩
            | true =>
              rw [h2, cond_true] at nx2
              rw [cond_true, if_neg (by decide)]
              by_cases hz : S.1 = 0
              · rw [if_pos (by rw [hz]; rfl)]
                obtain ⟨ω, u1, u2, u3⟩ := T_two (d := d + 7) (σ := ρ) (x := (nI i).toInt64) (y := (nI j).toInt64)
                rw [c_Main_rests_72 u1, g_Main_rests_75, nI_1, nI_1]
                refine nx2 ω ⟨p1.tr u2, ?_⟩
                dsimp only
                rw [hz]; exact u3
              · rw [if_neg (show ¬ nI S.1 = (0 : Int32) from nI_ne (a := S.1) (b := 0) (by omega) (by decide) hz)]
                refine nx2 ρ ⟨p1, ?_⟩
                dsimp only
                rw [show (S.1 == 0) = false from beq_false_of_ne hz]; exact p2
        · rintro ρ ⟨p1, p2⟩
          show RnI (ev (d + 10) 265 32 [(0, .ref 0), (1, .int t), (2, .int (nI (reS t (10 * i + 10)).1)), (3, .int (nI i)), (4, .int (nI 10))] [] (mkH ρ)) _
          rw [g_Main_rests_32, if_pos (by decide), nI_1]
          exact nx ρ ⟨p1, p2⟩
      · rintro ρ ⟨p1, p2⟩
        show RnI (ev (d + 10) 265 23 [(0, .ref 0), (1, .int t), (2, .int (nI (reS t 100).1)), (3, .int (nI 10))] [] (mkH ρ)) _
        rw [g_Main_rests_23, if_pos (by decide)]
        exact RnI.mk ⟨p1.wk rfl, rfl, p2⟩
  · intro d σ W f hd h
    obtain ⟨d, rfl⟩ : ∃ e, d = e + 10 := ⟨d - 10, by omega⟩
    rw [g_Model_rests_0, c_Model_rests_9 N_inF, g_Model_rests_12]
    by_cases hin : inF t 0 9 = 0
    · simp only [if_pos hin]
      exact RnI.mk ⟨Ag.I Ag.rf rfl, rfl, ⟨rfl, rfl⟩⟩
    · simp only [if_neg hin]
      refine lpG (α := Sg) (n := 10) (P := fun i ρ => Ag [3210, 3209, 20055] σ ρ ∧ MD ρ (reS t (10 * i)).2)
        (f := fun i ρ => ev (d + 10) 114 26 [(0, .ref 50), (1, .int t), (2, .int (nI (reS t (10 * i)).1)), (3, .int (nI i))] [] (mkH ρ)) (Q := fun o => RnI o _) ?_ ?_ 10 0 (uI (uI σ 3210 0) 3209 0) (by omega) ⟨Ag.I (Ag.I Ag.rf rfl) rfl, MD.nil⟩
      · rintro i ρ hi ⟨p1, p2⟩ nx
        show RnI (ev (d + 10) 114 26 [(0, .ref 50), (1, .int t), (2, .int (nI (reS t (10 * i)).1)), (3, .int (nI i))] [] (mkH ρ)) _
        rw [g_Model_rests_26, if_neg (show ¬ (9 : Int32) < nI i from nI_nlt (a := 9) (b := i) (by omega) (by omega))]
        refine lpG (α := Sg) (n := 10) (P := fun j ρ => Ag [3210, 3209, 20055] σ ρ ∧ MD ρ (reS t (10 * i + j)).2)
          (f := fun j ρ => ev (d + 10) 114 35 [(0, .ref 50), (1, .int t), (2, .int (nI (reS t (10 * i + j)).1)), (3, .int (nI i)), (4, .int (nI j))] [] (mkH ρ)) (Q := fun o => RnI o _) ?_ ?_ 10 0 ρ (by omega) ⟨p1, p2⟩
        · rintro j ρ hj ⟨p1, p2⟩ nx2
          show RnI (ev (d + 10) 114 35 [(0, .ref 50), (1, .int t), (2, .int (nI (reS t (10 * i + j)).1)), (3, .int (nI i)), (4, .int (nI j))] [] (mkH ρ)) _
          have hb := reS_b (t := t) (10 * i + j)
          rw [g_Model_rests_35, if_neg (show ¬ (9 : Int32) < nI j from nI_nlt (a := 9) (b := j) (by omega) (by omega)), c_Model_rests_46 M_bs, g_Model_rests_49, nI_1]
          have e : reS t (10 * i + (j + 1)) = bif bsB (nI i) (nI j) t && bsB (nI j) (nI i) t then ((reS t (10 * i + j)).1 + 1, bif (reS t (10 * i + j)).1 == 0 then [(nI i).toInt64, (nI j).toInt64] else (reS t (10 * i + j)).2) else reS t (10 * i + j) := by
            rw [show 10 * i + (j + 1) = 10 * i + j + 1 from rfl, reS_s, show (10 * i + j) / 10 = i by omega, show (10 * i + j) % 10 = j by omega]; rfl
          rw [e] at nx2
          clear e
          generalize reS t (10 * i + j) = S at hb nx2 p2 ⊢
          cases h1 : bsB (nI i) (nI j) t with
          | false => rw [h1] at nx2; rw [cond_false, if_pos rfl]; exact nx2 ρ ⟨p1, p2⟩
          | true =>
            rw [h1, Bool.true_and] at nx2
            rw [cond_true, if_neg (by decide), c_Model_rests_56 M_bs, g_Model_rests_59, nI_1, nI_1]
            cases h2 : bsB (nI j) (nI i) t with
            | false => rw [h2] at nx2; rw [cond_false, if_pos rfl]; exact nx2 ρ ⟨p1, p2⟩
            | true =>
              rw [h2, cond_true] at nx2
              rw [cond_true, if_neg (by decide)]
              by_cases hz : S.1 = 0
              · rw [if_pos (by rw [hz]; rfl)]
                rw [hb.2.2 hz] at p2
                obtain ⟨ω, u1, u2, u3⟩ := N_tell (d := d + 8) (x := (nI i).toInt64) p2 (by show 0 < 16; decide)
                obtain ⟨ω2, v1, v2, v3⟩ := N_tell2 (d := d + 8) (y := (nI j).toInt64) (show MD ω [(nI i).toInt64] from u3)
                rw [c_Model_rests_72 u1, g_Model_rests_75, c_Model_rests_79 v1, g_Model_rests_82, nI_1, nI_1]
                refine nx2 ω2 ⟨p1.tr ((u2.wk rfl).tr (v2.wk rfl)), ?_⟩
                dsimp only
                rw [hz]; exact v3
              · rw [if_neg (show ¬ nI S.1 = (0 : Int32) from nI_ne (a := S.1) (b := 0) (by omega) (by decide) hz)]
                refine nx2 ρ ⟨p1, ?_⟩
                dsimp only
                rw [show (S.1 == 0) = false from beq_false_of_ne hz]; exact p2
        · rintro ρ ⟨p1, p2⟩
          show RnI (ev (d + 10) 114 35 [(0, .ref 50), (1, .int t), (2, .int (nI (reS t (10 * i + 10)).1)), (3, .int (nI i)), (4, .int (nI 10))] [] (mkH ρ)) _
          rw [g_Model_rests_35, if_pos (by decide), nI_1]
          exact nx ρ ⟨p1, p2⟩
      · rintro ρ ⟨p1, p2⟩
        show RnI (ev (d + 10) 114 26 [(0, .ref 50), (1, .int t), (2, .int (nI (reS t 100).1)), (3, .int (nI 10))] [] (mkH ρ)) _
        rw [g_Model_rests_26, if_pos (by decide)]
        exact RnI.mk ⟨p1.wk rfl, rfl, p2⟩
/-! sign -/
theorem nar_by {x : Int32} : vp_nar .byte x = (Int32.toInt8 x).toInt32 := rfl
theorem nar_ch {x : Int32} : vp_nar .char x = (Int32.toUInt32 x % 65536).toInt32 := rfl
end GM
