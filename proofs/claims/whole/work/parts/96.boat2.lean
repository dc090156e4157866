/-! barges: a line, by the class -/
def kBt : List Nat := [66, 67, 10010, 10011, 10012, 10013]
def OtB (σ τ : Sg) (b : Nat) : Prop := ∀ i, i ≠ b → sA τ 10 i = sA σ 10 i ∧ sA τ 11 i = sA σ 11 i ∧ sA τ 12 i = sA σ 12 i ∧ sA τ 13 i = sA σ 13 i
section BT2
variable {d n m a b e : Nat} {σ τ : Sg} {T : Nat → Int32} {W : Wd} {x y : Int32}
theorem C_line (h : CT σ T e a) (ha : a ≤ 1000) (hW : WO W) (hcc : CC W σ) (hb : b < 4) :
    (∀ q, bfF T e W (sA σ 10) b a = some q → RnI (ev (d + 3) 139 0 [(0, .ref 5), (1, .ref 1), (2, .int (nI b))] [] (mkH σ)) (fun τ y => Ag kBt σ τ ∧ y = 0 ∧ sI τ 66 = nI q ∧ OtB σ τ b)) ∧
    (bfF T e W (sA σ 10) b a = none → RnI (ev (d + 3) 139 0 [(0, .ref 5), (1, .ref 1), (2, .int (nI b))] [] (mkH σ)) (fun τ y => Ag kBt σ τ ∧ y = 1 ∧ CT τ T e (a + plN T e a + 2) ∧ sA τ 10 = upd (sA σ 10) b (nI (plV T e a)) ∧ sA τ 11 = upd (sA σ 11) b (if heF T e (a + plN T e a) = 45 then 1 else 0) ∧ sA τ 12 = upd (sA σ 12) b (heF T e (a + plN T e a + 1) - 48) ∧ sA τ 13 = upd (sA σ 13) b 0)) := by
  have same : OtB σ σ b := fun i hi => ⟨rfl, rfl, rfl, rfl⟩
  unfold bfF
  by_cases h0 : inF (heF T e a) 48 57 = 0
  · rw [if_pos h0]
    refine ⟨fun q hq => ?_, fun hq => by cases hq⟩
    have hq : a = q := Option.some.inj hq
    subst hq
    have hd := C_dig (d := d + 1) h
    rw [if_pos h0] at hd
    rw [g_Fleet_draftBarge_0, c_Fleet_draftBarge_1 hd, g_Fleet_draftBarge_4, if_neg (by decide)]
    exact RnI.mk ⟨Ag.rf, rfl, h.1, same⟩
  · rw [if_neg h0]
    obtain ⟨x4, τ, g1, g2, g3, g4⟩ := C_place (d := d + 1) (b := b) h ha h0
    rw [g4]
    have hcc2 := hcc.ag g1 rfl
    have w30 := hW.2.2.2.1
    have r10 : sA τ 10 = sA σ 10 := g1.2.1 10 rfl
    have n12 : plN T e a = 1 ∨ plN T e a = 2 := by unfold plN; split; exact Or.inl rfl; exact Or.inr rfl
    have back : RnI (rI (uI τ 66 (sI τ 66 - 1)) 0) (fun τ y => Ag kBt σ τ ∧ y = 0 ∧ sI τ 66 = nI (a + plN T e a - 1) ∧ OtB σ τ b) := by
      refine RnI.mk ⟨(g1.wk rfl).tr (Ag.I Ag.rf rfl), rfl, ?_, fun i hi => ?_⟩
      · show sI τ 66 - 1 = _
        rw [g2.1]; exact nI_sub (a := a + plN T e a) (b := 1) (by omega)
      · show sA τ 10 i = _ ∧ sA τ 11 i = _ ∧ sA τ 12 i = _ ∧ sA τ 13 i = _
        rw [g1.2.1 10 rfl, g1.2.1 11 rfl, g1.2.1 12 rfl, g1.2.1 13 rfl]; exact ⟨rfl, rfl, rfl, rfl⟩
    rw [c_Fleet_draftBarge_35 (C_has (d := d + 1) hcc2.1 (by omega)), g_Fleet_draftBarge_38]
    unfold frB
    by_cases hp : plV T e a < wc W
    · rw [ixn (k := plV T e a) hp (by omega), cond_true, if_neg (show ¬ (1 : Int32) = 0 by decide), c_Fleet_draftBarge_46 (C_lock (d := d) hcc2 hW), g_Fleet_draftBarge_49, ixn (k := plV T e a) hp (by omega), cond_true, cln (n := plV T e a) (by omega), decide_eq_true hp, Bool.true_and]
      have toBack : ∀ {X : Option Nat}, X = some (a + plN T e a - 1) → (∀ q, X = some q → RnI (rI (uI τ 66 (sI τ 66 - 1)) 0) (fun τ y => Ag kBt σ τ ∧ y = 0 ∧ sI τ 66 = nI q ∧ OtB σ τ b)) ∧ (X = none → RnI (rI (uI τ 66 (sI τ 66 - 1)) 0) (fun τ y => Ag kBt σ τ ∧ y = 1 ∧ CT τ T e (a + plN T e a + 2) ∧ sA τ 10 = upd (sA σ 10) b (nI (plV T e a)) ∧ sA τ 11 = upd (sA σ 11) b (if heF T e (a + plN T e a) = 45 then 1 else 0) ∧ sA τ 12 = upd (sA σ 12) b (heF T e (a + plN T e a + 1) - 48) ∧ sA τ 13 = upd (sA σ 13) b 0)) := fun {X} hX => by
        subst hX
        refine ⟨fun q hq => ?_, fun hq => by cases hq⟩
        have hq : a + plN T e a - 1 = q := Option.some.inj hq
        subst hq
        exact back
      by_cases hk : 0 < wK W (plV T e a)
      · rw [if_pos (show 0 < mxF 0 (wK W (plV T e a)) by unfold mxF; rw [if_pos hk]; exact hk), decide_eq_true hk]
        exact toBack rfl
      · rw [if_neg (show ¬ 0 < mxF 0 (wK W (plV T e a)) by unfold mxF; rw [if_neg hk]; decide), decide_eq_false hk, c_Fleet_draftBarge_55 (F_on (d := d + 1) (w := false) (m := b) (by omega)), g_Fleet_draftBarge_58]
        have ef : fndF (fun i => sA τ (fa false 0) i == nI (plV T e a)) b 0 = fndF (fun i => sA σ 10 i == nI (plV T e a)) b 0 := by
          show fndF (fun i => sA τ 10 i == nI (plV T e a)) b 0 = _
          rw [r10]
        rw [ef]
        rcases fndF_cases (fun i => sA σ 10 i == nI (plV T e a)) b 0 (by omega) with hf | ⟨i, _, _, _, hf⟩
        · have hl := C_look (d := d + 1) g2
          rw [hf, if_pos (show (-1 : Int32) < 0 by decide), c_Fleet_draftBarge_74 hl, g_Fleet_draftBarge_77, ixn (k := b) hb (by decide), cln (n := b) (by omega), g2.1, nI_1]
          have eb : (!false && ((-1 : Int32) == -1)) = true := by decide
          rw [eb]
          simp only [cond_true]
          have sOt : OtB σ τ b := fun i hi => by
            rw [g1.2.1 10 rfl, g1.2.1 11 rfl, g1.2.1 12 rfl, g1.2.1 13 rfl]; exact ⟨rfl, rfl, rfl, rfl⟩
          have fin : ∀ hv x5 : Int32, (inF (heF T e (a + plN T e a + 1)) 48 57 = 0 → RnI (ev (d + 3) 139 136 [(0, .ref 5), (1, .ref 1), (2, .int (nI b)), (3, .int (nI (plV T e a))), (4, .int x4), (5, .int x5)] [.ref 1, .int (nI b), .ref 12] (mkH (uA (uA (uI τ 66 (nI (a + plN T e a + 1))) 10 b (nI (plV T e a))) 11 b hv))) (fun τ y => Ag kBt σ τ ∧ y = 0 ∧ sI τ 66 = nI (a + plN T e a + 1) ∧ OtB σ τ b)) ∧ (¬ inF (heF T e (a + plN T e a + 1)) 48 57 = 0 → RnI (ev (d + 3) 139 136 [(0, .ref 5), (1, .ref 1), (2, .int (nI b)), (3, .int (nI (plV T e a))), (4, .int x4), (5, .int x5)] [.ref 1, .int (nI b), .ref 12] (mkH (uA (uA (uI τ 66 (nI (a + plN T e a + 1))) 10 b (nI (plV T e a))) 11 b hv))) (fun τ y => Ag kBt σ τ ∧ y = 1 ∧ CT τ T e (a + plN T e a + 2) ∧ sA τ 10 = upd (sA σ 10) b (nI (plV T e a)) ∧ sA τ 11 = upd (sA σ 11) b hv ∧ sA τ 12 = upd (sA σ 12) b (heF T e (a + plN T e a + 1) - 48) ∧ sA τ 13 = upd (sA σ 13) b 0)) := by
            intro hv x5
            have a2 : Ag kBt σ (uA (uA (uI τ 66 (nI (a + plN T e a + 1))) 10 b (nI (plV T e a))) 11 b hv) := (g1.wk rfl).tr (Ag.A (Ag.A (Ag.I Ag.rf rfl) rfl) rfl)
            have hC : CT (uA (uA (uI τ 66 (nI (a + plN T e a + 1))) 10 b (nI (plV T e a))) 11 b hv) T e (a + plN T e a + 1) := ⟨rfl, g2.2.1, g2.2.2.1, g2.2.2.2.1, by omega⟩
            have q10 : sA (uA (uA (uI τ 66 (nI (a + plN T e a + 1))) 10 b (nI (plV T e a))) 11 b hv) 10 = upd (sA σ 10) b (nI (plV T e a)) := by show upd (sA τ 10) b _ = _; rw [r10]
            have q11 : sA (uA (uA (uI τ 66 (nI (a + plN T e a + 1))) 10 b (nI (plV T e a))) 11 b hv) 11 = upd (sA σ 11) b hv := by show upd (sA τ 11) b _ = _; rw [g1.2.1 11 rfl]
            have q12 : sA (uA (uA (uI τ 66 (nI (a + plN T e a + 1))) 10 b (nI (plV T e a))) 11 b hv) 12 = sA σ 12 := g1.2.1 12 rfl
            have q13 : sA (uA (uA (uI τ 66 (nI (a + plN T e a + 1))) 10 b (nI (plV T e a))) 11 b hv) 13 = sA σ 13 := g1.2.1 13 rfl
            generalize uA (uA (uI τ 66 (nI (a + plN T e a + 1))) 10 b (nI (plV T e a))) 11 b hv = κ at a2 hC q10 q11 q12 q13
            have hdg := C_dig (d := d + 1) hC
            refine ⟨fun hq => ?_, fun hq => ?_⟩
            · rw [if_pos hq] at hdg
              rw [c_Fleet_draftBarge_136 hdg, g_Fleet_draftBarge_139, ixn (k := b) hb (by decide), cond_true, cond_true, cond_true, cln (n := b) (by omega), nar0, if_pos (show sA (uA (uA κ 12 b (-1)) 13 b 0) 12 b < 0 by show upd (sA κ 12) b (-1) b < 0; rw [upS]; decide)]
              refine RnI.mk ⟨a2.tr (Ag.A (Ag.A Ag.rf rfl) rfl), rfl, hC.1, fun i hi => ?_⟩
              show sA κ 10 i = _ ∧ sA κ 11 i = _ ∧ upd (sA κ 12) b _ i = _ ∧ upd (sA κ 13) b _ i = _
              rw [q10, q11, q12, q13, upN hi, upN hi, upN hi, upN hi]; exact ⟨rfl, rfl, rfl, rfl⟩
            · rw [if_neg hq] at hdg
              obtain ⟨j, j1, j2, j3⟩ := dg_n hq
              rw [j2] at hdg ⊢
              rw [c_Fleet_draftBarge_136 hdg, g_Fleet_draftBarge_139, ixn (k := b) hb (by decide), cond_true, cond_true, cond_true, cln (n := b) (by omega), nar0, if_neg (show ¬ sA (uA (uA (uI κ 66 (nI (a + plN T e a + 1 + 1))) 12 b (nI j)) 13 b 0) 12 b < 0 by show ¬ upd (sA κ 12) b (nI j) b < 0; rw [upS]; exact nI_pos (by omega))]
              refine RnI.mk ⟨a2.tr (Ag.A (Ag.A (Ag.I Ag.rf rfl) rfl) rfl), rfl, ⟨rfl, hC.2.1, hC.2.2.1, hC.2.2.2.1, by omega⟩, q10, q11, ?_, ?_⟩
              · show upd (sA κ 12) b _ = _
                rw [q12]
              · show upd (sA κ 13) b _ = _
                rw [q13]
          by_cases s1 : heF T e (a + plN T e a) = 43
          · have n45 : ¬ heF T e (a + plN T e a) = 45 := by rw [s1]; decide
            simp only [if_pos s1, if_neg n45, if_pos (Or.inl s1 : heF T e (a + plN T e a) = 43 ∨ heF T e (a + plN T e a) = 45)]
            by_cases hq : inF (heF T e (a + plN T e a + 1)) 48 57 = 0
            · simp only [if_pos hq]
              exact ⟨fun q h => Option.some.inj h ▸ (fin 0 _).1 hq, fun h => (by cases h)⟩
            · simp only [if_neg hq]
              exact ⟨fun q h => (by cases h), fun _ => (fin 0 _).2 hq⟩
          · by_cases s2 : heF T e (a + plN T e a) = 45
            · simp only [if_neg s1, if_pos s2, if_pos (Or.inr s2 : heF T e (a + plN T e a) = 43 ∨ heF T e (a + plN T e a) = 45)]
              by_cases hq : inF (heF T e (a + plN T e a + 1)) 48 57 = 0
              · simp only [if_pos hq]
                exact ⟨fun q h => Option.some.inj h ▸ (fin 1 _).1 hq, fun h => (by cases h)⟩
              · simp only [if_neg hq]
                exact ⟨fun q h => (by cases h), fun _ => (fin 1 _).2 hq⟩
            · simp only [if_neg s1, if_neg s2, if_neg (fun z => z.elim s1 s2 : ¬ (heF T e (a + plN T e a) = 43 ∨ heF T e (a + plN T e a) = 45))]
              exact ⟨fun q h => Option.some.inj h ▸ RnI.mk ⟨g1.wk rfl, rfl, g2.1, sOt⟩, fun h => (by cases h)⟩
        · rw [hf, if_neg (nI_pos (by omega))]
          refine toBack ?_
          rw [show (nI i == (-1 : Int32)) = false from beq_f (nI_nm1 (by omega))]; rfl
    · have hx : ax_ix (nI (plV T e a)) (wc W) = false := by
        cases hq : ax_ix (nI (plV T e a)) (wc W) with
        | false => rfl
        | true =>
          obtain ⟨j, j1, j2, j3⟩ := ix_of hq
          exact absurd j3 (nI_ne (by omega) (by omega) (by omega))
      rw [hx, cond_false, if_pos rfl, decide_eq_false hp, Bool.false_and, cond_false]
      refine ⟨fun q hq => ?_, fun hq => by cases hq⟩
      have hq : a + plN T e a - 1 = q := Option.some.inj hq
      subst hq
      exact back
end BT2
