/-! The row that is told; the trial fleet -/
def TD (σ : Sg) (l : List Int64) : Prop := sI σ 2817 = nI l.length ∧ ∀ i z, l[i]? = some z → sL σ 45 i = z
def MD (σ : Sg) (l : List Int64) : Prop := sI σ 3209 = nI l.length ∧ ∀ i z, l[i]? = some z → sL σ 55 i = z
theorem L_at {σ : Sg} {a i j : Nat} {z : Int64} : sL (uL σ a i z) a j = if j = i then z else sL σ a j := by rw [L_S]; rfl
theorem app_at {l : List Int64} {x z : Int64} {i : Nat} (h : (l ++ [x])[i]? = some z) : (i = l.length ∧ z = x) ∨ (i < l.length ∧ l[i]? = some z) := by
  by_cases c : i < l.length
  · rw [List.getElem?_append_left c] at h; exact Or.inr ⟨c, h⟩
  · rw [List.getElem?_append_right (by omega)] at h
    cases hn : i - l.length with
    | zero =>
      rw [hn] at h
      have h : some x = some z := h
      exact Or.inl ⟨by omega, (Option.some.inj h).symm⟩
    | succ k => rw [hn] at h; cases h
theorem TD.nil {σ : Sg} : TD (uI σ 2817 0) [] := ⟨I_S, fun i z h => by cases h⟩
theorem MD.nil {σ : Sg} : MD (uI σ 3209 0) [] := ⟨I_S, fun i z h => by cases h⟩
section TOLD
variable {d : Nat} {σ : Sg} {l : List Int64} {x y : Int64}
theorem T_add (h : TD σ l) (hl : l.length < 9) : RnV (ev (d + 1) 212 0 [(0, .ref 44), (1, .long x)] [] (mkH σ)) (fun τ => Ag [2817, 20045] σ τ ∧ TD τ (l ++ [x])) := by
  rw [g_Told_add_0, h.1, if_neg (show ¬ (9 : Int32) ≤ nI l.length from nI_ge (a := l.length) (b := 9) hl (by decide)), ixn hl (by decide), cond_true, cln (by omega), nI_1]
  refine RnV.mk ⟨Ag.I (Ag.L Ag.rf rfl) rfl, ?_, fun i z hz => ?_⟩
  · rw [I_S, List.length_append]; rfl
  · rw [L_I, L_at]
    rcases app_at hz with ⟨e1, e2⟩ | ⟨e1, e2⟩
    · rw [if_pos e1, e2]
    · rw [if_neg (by omega)]; exact h.2 i z e2
theorem T_none : RnV (ev (d + 1) 211 0 [(0, .ref 44)] [] (mkH σ)) (fun τ => Ag [2817, 20045] σ τ ∧ TD τ []) := by
  rw [g_Told_nothing_0]
  exact RnV.mk ⟨Ag.I Ag.rf rfl, TD.nil⟩
theorem T_one : RnV (ev (d + 2) 213 0 [(0, .ref 44), (1, .long x)] [] (mkH σ)) (fun τ => Ag [2817, 20045] σ τ ∧ TD τ [x]) := by
  obtain ⟨τ, k1, k2, k3⟩ := T_add (d := d) (x := x) (TD.nil (σ := σ)) (by decide)
  rw [g_Told_one_0, c_Told_one_7 k1, g_Told_one_10]
  exact RnV.mk ⟨(Ag.I Ag.rf rfl).tr k2, k3⟩
theorem T_two : RnV (ev (d + 2) 214 0 [(0, .ref 44), (1, .long x), (3, .long y)] [] (mkH σ)) (fun τ => Ag [2817, 20045] σ τ ∧ TD τ [x, y]) := by
  obtain ⟨τ, k1, k2, k3⟩ := T_add (d := d) (x := x) (TD.nil (σ := σ)) (by decide)
  obtain ⟨τ2, j1, j2, j3⟩ := T_add (d := d) (x := y) k3 (by show 1 < 9; decide)
  rw [g_Told_two_0, c_Told_two_7 k1, g_Told_two_10, c_Told_two_12 j1, g_Told_two_15]
  exact RnV.mk ⟨((Ag.I Ag.rf rfl).tr k2).tr j2, j3⟩
theorem N_tell (h : MD σ l) (hl : l.length < 16) : RnV (ev (d + 1) 13 0 [(0, .ref 50), (1, .long x)] [] (mkH σ)) (fun τ => Ag [3209, 20055] σ τ ∧ MD τ (l ++ [x])) := by
  rw [g_Model_tell_0, h.1, ixn hl (by decide), cond_true, cln (by omega), nI_1]
  refine RnV.mk ⟨Ag.I (Ag.L Ag.rf rfl) rfl, ?_, fun i z hz => ?_⟩
  · rw [I_S, List.length_append]; rfl
  · rw [L_I, L_at]
    rcases app_at hz with ⟨e1, e2⟩ | ⟨e1, e2⟩
    · rw [if_pos e1, e2]
    · rw [if_neg (by omega)]; exact h.2 i z e2
theorem N_tell1 : RnV (ev (d + 1) 13 0 [(0, .ref 50), (1, .long x)] [] (mkH (uI σ 3209 0))) (fun τ => Ag [3209, 20055] σ τ ∧ MD τ [x]) := (N_tell MD.nil (by decide)).im (fun τ h => ⟨(Ag.I Ag.rf rfl).tr h.1, h.2⟩)
theorem N_tell2 (h : MD σ [x]) : RnV (ev (d + 1) 13 0 [(0, .ref 50), (1, .long y)] [] (mkH σ)) (fun τ => Ag [3209, 20055] σ τ ∧ MD τ [x, y]) := N_tell h (by show 1 < 16; decide)
end TOLD
/-! the trial fleet is as now -/
def kC : List Nat := [10024, 10025, 10026, 10027, 10032, 10033, 10034, 10035, 1474, 1477, 1486, 30001]
theorem cpy_lt {f g : Nat → Int32} {n i : Nat} (h : i < n) : va_cpy f g 0 0 n i = f i := by
  unfold va_cpy
  rw [if_pos (by omega)]
  show f (0 + (i - 0)) = f i
  rw [Nat.zero_add, Nat.sub_zero]
theorem F_copy {d : Nat} {σ : Sg} {W : Wd} {f : Nat → Int32} (hW : WO W) (ho : OK W f) (hf : FR W false σ f) (hc : CW W false σ) : RnV (ev (d + 1) 135 0 [(0, .ref 23), (1, .ref 5)] [] (mkH σ)) (fun τ => Ag kC σ τ ∧ FR W true τ f ∧ CW W true τ ∧ sB τ 1 = sB σ 0) := by
  have w4 := hW.1
  have w9 := hW.2.1
  rw [g_Fleet_copy_0, c_Fleet_copy_43, g_Fleet_copy_46, c_Fleet_copy_57, g_Fleet_copy_60, c_Fleet_copy_71, g_Fleet_copy_74, c_Fleet_copy_86, g_Fleet_copy_89, c_Fleet_copy_101, g_Fleet_copy_104, c_Fleet_copy_116, g_Fleet_copy_119]
  generalize hs : uC (uC (uC (uC (uC (uC (uI (uI (uI (uB σ 1 (sB σ 0)) 1474 (sI σ 322)) 1477 (sI σ 325)) 1486 (sI σ 334)) 10 24 4) 11 25 4) 12 26 4) 18 32 9) 19 33 9) 21 35 9 = s
  have a0 : Ag kC σ s := hs ▸ Ag.C (Ag.C (Ag.C (Ag.C (Ag.C (Ag.C (Ag.I (Ag.I (Ag.I (Ag.B Ag.rf rfl) rfl) rfl) rfl) rfl) rfl) rfl) rfl) rfl) rfl
  have e24 : sA s 24 = va_cpy (sA σ 10) (sA σ 24) 0 0 4 := by rw [← hs]; rfl
  have e25 : sA s 25 = va_cpy (sA σ 11) (sA σ 25) 0 0 4 := by rw [← hs]; rfl
  have e26 : sA s 26 = va_cpy (sA σ 12) (sA σ 26) 0 0 4 := by rw [← hs]; rfl
  have e32 : sA s 32 = va_cpy (sA σ 18) (sA σ 32) 0 0 9 := by rw [← hs]; rfl
  have e33 : sA s 33 = va_cpy (sA σ 19) (sA σ 33) 0 0 9 := by rw [← hs]; rfl
  have e35 : sA s 35 = va_cpy (sA σ 21) (sA σ 35) 0 0 9 := by rw [← hs]; rfl
  have i1 : sI s 1474 = sI σ 322 := by rw [← hs]; rfl
  have i2 : sI s 1477 = sI σ 325 := by rw [← hs]; rfl
  have i3 : sI s 1486 = sI σ 334 := by rw [← hs]; rfl
  have b1 : sB s 1 = sB σ 0 := by rw [← hs]; rfl
  refine lpG (α := Sg) (n := 4) (P := fun k ρ => Ag [10027] s ρ ∧ ∀ b, b < k → sA ρ 27 b = vp_nar .boolean (sA σ 13 b))
    (f := fun k ρ => ev (d + 1) 135 121 [(0, .ref 23), (1, .ref 5), (2, .int (nI k))] [] (mkH ρ)) (Q := fun o => RnV o _) ?_ ?_ 4 0 s (by omega) ⟨Ag.rf, fun b hb => absurd hb (Nat.not_lt_zero b)⟩
  · rintro k ρ hk ⟨p1, p2⟩ nx
    show RnV (ev (d + 1) 135 121 [(0, .ref 23), (1, .ref 5), (2, .int (nI k))] [] (mkH ρ)) _
    rw [g_Fleet_copy_121, if_neg (show ¬ (4 : Int32) ≤ nI k from nI_ge (a := k) (b := 4) hk (by decide)), ixn (k := k) hk (by decide), cond_true, cond_true, cln (n := k) (by omega), nI_1]
    refine nx _ ⟨Ag.A p1 rfl, fun b hb => ?_⟩
    rw [A_at, p1.2.1 13 rfl, a0.2.1 13 rfl]
    by_cases e : b = k
    · rw [if_pos e, e]
    · rw [if_neg e]; exact p2 b (by omega)
  · rintro ρ1 ⟨p1, p2⟩
    show RnV (ev (d + 1) 135 121 [(0, .ref 23), (1, .ref 5), (2, .int (nI 4))] [] (mkH ρ1)) _
    rw [g_Fleet_copy_121, if_pos (by decide)]
    refine lpG (α := Sg) (n := 9) (P := fun k ρ => Ag [10034] ρ1 ρ ∧ ∀ b, b < k → sA ρ 34 b = vp_nar .boolean (sA σ 20 b))
      (f := fun k ρ => ev (d + 1) 135 146 [(0, .ref 23), (1, .ref 5), (2, .int (nI k))] [] (mkH ρ)) (Q := fun o => RnV o _) ?_ ?_ 9 0 ρ1 (by omega) ⟨Ag.rf, fun b hb => absurd hb (Nat.not_lt_zero b)⟩
    · rintro k ρ hk ⟨r1, r2⟩ nx
      show RnV (ev (d + 1) 135 146 [(0, .ref 23), (1, .ref 5), (2, .int (nI k))] [] (mkH ρ)) _
      rw [g_Fleet_copy_146, if_neg (show ¬ (9 : Int32) ≤ nI k from nI_ge (a := k) (b := 9) hk (by decide)), ixn (k := k) hk (by decide), cond_true, cond_true, cln (n := k) (by omega), nI_1]
      refine nx _ ⟨Ag.A r1 rfl, fun b hb => ?_⟩
      rw [A_at, r1.2.1 20 rfl, p1.2.1 20 rfl, a0.2.1 20 rfl]
      by_cases e : b = k
      · rw [if_pos e, e]
      · rw [if_neg e]; exact r2 b (by omega)
    · rintro ρ ⟨r1, r2⟩
      show RnV (ev (d + 1) 135 146 [(0, .ref 23), (1, .ref 5), (2, .int (nI 9))] [] (mkH ρ)) _
      rw [g_Fleet_copy_146, if_pos (by decide)]
      have a1 : Ag kC σ ρ := (a0.tr (p1.wk rfl)).tr (r1.wk rfl)
      refine RnV.mk ⟨a1, ⟨fun b hb => ?_, fun p hp => ?_, ?_⟩, ⟨?_, ?_, fun p hp => ?_⟩, ?_⟩
      · obtain ⟨h1, h2, h3, h4⟩ := hf.1 b hb
        refine ⟨?_, ?_, ?_, ?_⟩
        · show sA ρ 24 b = _
          rw [r1.2.1 24 rfl, p1.2.1 24 rfl, e24, cpy_lt (by omega)]; exact h1
        · show sA ρ 25 b = _
          rw [r1.2.1 25 rfl, p1.2.1 25 rfl, e25, cpy_lt (by omega)]; exact h2
        · show sA ρ 26 b = _
          rw [r1.2.1 26 rfl, p1.2.1 26 rfl, e26, cpy_lt (by omega)]; exact h3
        · show sA ρ 27 b = _
          rw [r1.2.1 27 rfl, p2 b (by omega), show sA σ 13 b = f (12 + b) from h4, nar_b (ho.1 b hb).2.2.2]
      · obtain ⟨h1, h2, h3⟩ := hf.2.1 p hp
        refine ⟨?_, ?_, ?_⟩
        · show sA ρ 33 p = _
          rw [r1.2.1 33 rfl, p1.2.1 33 rfl, e33, cpy_lt (by omega)]; exact h1
        · show sA ρ 34 p = _
          rw [r2 p (by omega), show sA σ 20 p = f (25 + p) from h2, nar_b (ho.2 p hp).2.1]
        · show sA ρ 35 p = _
          rw [r1.2.1 35 rfl, p1.2.1 35 rfl, e35, cpy_lt (by omega)]; exact h3
      · show sI ρ 1474 = _
        rw [r1.1 1474 rfl, p1.1 1474 rfl, i1]; exact hf.2.2
      · show sI ρ 1477 = _
        rw [r1.1 1477 rfl, p1.1 1477 rfl, i2]; exact hc.1
      · show sI ρ 1486 = _
        rw [r1.1 1486 rfl, p1.1 1486 rfl, i3]; exact hc.2.1
      · show sA ρ 32 p = _
        rw [r1.2.1 32 rfl, p1.2.1 32 rfl, e32, cpy_lt (by omega)]; exact hc.2.2 p hp
      · rw [r1.2.2.2.1 1 rfl, p1.2.2.2.1 1 rfl, b1]
