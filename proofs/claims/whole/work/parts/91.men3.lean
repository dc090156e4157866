/-! passengers: the new ones -/
def fpF (T : Nat → Int32) (e P : Nat) (f : Nat → Int32) (i : Nat) : Int32 :=
  if 16 + P ≤ i ∧ i < 25 then heF T e (4 * (i - 16 - P) + 1) - 48 else if 25 + P ≤ i ∧ i < 34 then (if heF T e (4 * (i - 25 - P) + 2) = 97 then 1 else 0) else if 34 + P ≤ i ∧ i < 43 then heF T e (4 * (i - 34 - P)) - 48 else f i
section FP
variable {d P e j z : Nat} {σ τ : Sg} {T f : Nat → Int32}
theorem fp_b (h : P + j < 9) : fpF T e P f (16 + (P + j)) = heF T e (4 * j + 1) - 48 := by
  unfold fpF; rw [if_pos (by omega), show 16 + (P + j) - 16 - P = j by omega]
theorem fp_a (h : P + j < 9) : fpF T e P f (25 + (P + j)) = (if heF T e (4 * j + 2) = 97 then 1 else 0) := by
  unfold fpF; rw [if_neg (by omega), if_pos (by omega), show 25 + (P + j) - 25 - P = j by omega]
theorem fp_i (h : P + j < 9) : fpF T e P f (34 + (P + j)) = heF T e (4 * j) - 48 := by
  unfold fpF; rw [if_neg (by omega), if_neg (by omega), if_pos (by omega), show 34 + (P + j) - 34 - P = j by omega]
theorem fp_o {i : Nat} (h : i < 16 ∨ (16 ≤ i ∧ i < 16 + P) ∨ (25 ≤ i ∧ i < 25 + P) ∨ (34 ≤ i ∧ i < 34 + P) ∨ i = 43) (hP : P ≤ 9) : fpF T e P f i = f i := by
  unfold fpF; rw [if_neg (by omega), if_neg (by omega), if_neg (by omega)]
def FlM (s ρ : Sg) (T : Nat → Int32) (e P j : Nat) : Prop := sI ρ 3203 = nI (P + j) ∧ (∀ i, i < P → sA ρ 53 i = sA s 53 i) ∧ (∀ k, k < j → sA ρ 53 (P + k) = heF T e (4 * k) - 48 ∧ sA ρ 51 (16 + (P + k)) = heF T e (4 * k + 1) - 48 ∧ sA ρ 51 (25 + (P + k)) = (if heF T e (4 * k + 2) = 97 then 1 else 0) ∧ sA ρ 51 (34 + (P + k)) = heF T e (4 * k) - 48) ∧ ∀ i, (i < 16 ∨ (16 ≤ i ∧ i < 16 + P) ∨ (25 ≤ i ∧ i < 25 + P) ∨ (34 ≤ i ∧ i < 34 + P) ∨ i = 43) → sA ρ 51 i = sA s 51 i
theorem M_fill (hz : P + z ≤ 9) (h0 : sI σ 3203 = nI P) (hL : LnM σ T e z) {x2 : Int32} : RnI (ev (d + 2) 37 93 [(0, .ref 50), (1, .int (nI z)), (2, .int x2), (3, .int 0)] [] (mkH σ)) (fun τ y => Ag [10053, 10051, 3203, 3223, 3239] σ τ ∧ y = nI z ∧ FlM σ τ T e P z ∧ sI τ 3223 = 0 ∧ sI τ 3239 = sI σ 3239 + 1) := by
  refine lpG (α := Sg) (n := z) (P := fun j ρ => Ag [10053, 10051, 3203] σ ρ ∧ FlM σ ρ T e P j)
    (f := fun j ρ => ev (d + 2) 37 93 [(0, .ref 50), (1, .int (nI z)), (2, .int x2), (3, .int (nI j))] [] (mkH ρ)) (Q := fun o => RnI o _) ?_ ?_ z 0 σ (by omega) ⟨Ag.rf, h0, fun i hi => rfl, fun k hk => absurd hk (Nat.not_lt_zero k), fun i hi => rfl⟩
  · rintro j ρ hj ⟨p1, p2, p3, p4, p5⟩ nx
    show RnI (ev (d + 2) 37 93 [(0, .ref 50), (1, .int (nI z)), (2, .int x2), (3, .int (nI j))] [] (mkH ρ)) _
    obtain ⟨q1, q2, q3⟩ := hL j hj
    have e3 : (3 : Int32) * nI j = nI (3 * j) := (Int32.ofNat_mul 3 j).symm
    have e31 : nI (3 * j) + (1 : Int32) = nI (3 * j + 1) := nI_add (3 * j) 1
    have e32 : nI (3 * j) + (2 : Int32) = nI (3 * j + 2) := nI_add (3 * j) 2
    rw [g_Model_passengers_93, if_neg (nI_ge hj (by omega)), p2, e3, e31, e32, add16, add25, add34, ixn (k := 3 * j) (by omega) (by decide), cond_true, ixn (k := P + j) (n := 9) (by omega) (by decide), cond_true, ixn (k := 3 * j + 1) (by omega) (by decide), cond_true, ixn (k := 16 + (P + j)) (by omega) (by decide), cond_true, ixn (k := 3 * j + 2) (by omega) (by decide), cond_true, ixn (k := 25 + (P + j)) (by omega) (by decide), cond_true, cond_true, ixn (k := 34 + (P + j)) (by omega) (by decide), cond_true, cln (n := 3 * j) (by omega), cln (n := P + j) (by omega), cln (n := 3 * j + 1) (by omega), cln (n := 3 * j + 2) (by omega), cln (n := 16 + (P + j)) (by omega), cln (n := 25 + (P + j)) (by omega), cln (n := 34 + (P + j)) (by omega), nI_1, nI_1]
    have v1 : sA ρ 56 = sA σ 56 := p1.2.1 56 rfl
    have es : uI (uA (uA (uA (uA ρ 53 (P + j) (sA ρ 56 (3 * j))) 51 (16 + (P + j)) (sA (uA ρ 53 (P + j) (sA ρ 56 (3 * j))) 56 (3 * j + 1))) 51 (25 + (P + j)) (sA (uA (uA ρ 53 (P + j) (sA ρ 56 (3 * j))) 51 (16 + (P + j)) (sA (uA ρ 53 (P + j) (sA ρ 56 (3 * j))) 56 (3 * j + 1))) 56 (3 * j + 2))) 51 (34 + (P + j)) (sA (uA (uA (uA ρ 53 (P + j) (sA ρ 56 (3 * j))) 51 (16 + (P + j)) (sA (uA ρ 53 (P + j) (sA ρ 56 (3 * j))) 56 (3 * j + 1))) 51 (25 + (P + j)) (sA (uA (uA ρ 53 (P + j) (sA ρ 56 (3 * j))) 51 (16 + (P + j)) (sA (uA ρ 53 (P + j) (sA ρ 56 (3 * j))) 56 (3 * j + 1))) 56 (3 * j + 2))) 53 (P + j))) 3203 (nI (P + j + 1)) = uI (uA (uA (uA (uA ρ 53 (P + j) (heF T e (4 * j) - 48)) 51 (16 + (P + j)) (heF T e (4 * j + 1) - 48)) 51 (25 + (P + j)) (if heF T e (4 * j + 2) = 97 then 1 else 0)) 51 (34 + (P + j)) (heF T e (4 * j) - 48)) 3203 (nI (P + j + 1)) := by
      have w1 : sA ρ 56 (3 * j) = heF T e (4 * j) - 48 := by rw [v1]; exact q1
      have w2 : sA (uA ρ 53 (P + j) (sA ρ 56 (3 * j))) 56 (3 * j + 1) = heF T e (4 * j + 1) - 48 := by
        show sA ρ 56 (3 * j + 1) = _
        rw [v1]; exact q2
      have w3 : ∀ v u : Int32, sA (uA (uA ρ 53 (P + j) v) 51 (16 + (P + j)) u) 56 (3 * j + 2) = (if heF T e (4 * j + 2) = 97 then 1 else 0) := fun v u => by
        show sA ρ 56 (3 * j + 2) = _
        rw [v1]; exact q3
      have w4 : ∀ v u w : Int32, sA (uA (uA (uA ρ 53 (P + j) v) 51 (16 + (P + j)) u) 51 (25 + (P + j)) w) 53 (P + j) = v := fun v u w => by
        show upd (sA ρ 53) (P + j) v (P + j) = v
        rw [upS]
      rw [w2, w3, w4, w1]
    rw [es]
    refine nx _ ⟨Ag.I (Ag.A (Ag.A (Ag.A (Ag.A p1 rfl) rfl) rfl) rfl) rfl, by show nI (P + j + 1) = _; rw [Nat.add_assoc], fun i hi => ?_, fun k hk => ?_, fun i hi => ?_⟩
    · show upd (sA ρ 53) (P + j) _ i = _
      rw [upN (by omega)]; exact p3 i hi
    · show upd (sA ρ 53) (P + j) _ (P + k) = _ ∧ upd (upd (upd (sA ρ 51) (16 + (P + j)) _) (25 + (P + j)) _) (34 + (P + j)) _ (16 + (P + k)) = _ ∧ upd (upd (upd (sA ρ 51) (16 + (P + j)) _) (25 + (P + j)) _) (34 + (P + j)) _ (25 + (P + k)) = _ ∧ upd (upd (upd (sA ρ 51) (16 + (P + j)) _) (25 + (P + j)) _) (34 + (P + j)) _ (34 + (P + k)) = _
      by_cases ek : k = j
      · subst ek
        refine ⟨upS, ?_, ?_, upS⟩
        · rw [upN (by omega), upN (by omega), upS]
        · rw [upN (by omega), upS]
      · obtain ⟨r1, r2, r3, r4⟩ := p4 k (by omega)
        refine ⟨?_, ?_, ?_, ?_⟩
        · rw [upN (by omega)]; exact r1
        · rw [upN (by omega), upN (by omega), upN (by omega)]; exact r2
        · rw [upN (by omega), upN (by omega), upN (by omega)]; exact r3
        · rw [upN (by omega), upN (by omega), upN (by omega)]; exact r4
    · show upd (upd (upd (sA ρ 51) (16 + (P + j)) _) (25 + (P + j)) _) (34 + (P + j)) _ i = _
      rw [upN (by omega), upN (by omega), upN (by omega)]; exact p5 i hi
  · rintro ρ ⟨p1, p2⟩
    show RnI (ev (d + 2) 37 93 [(0, .ref 50), (1, .int (nI z)), (2, .int x2), (3, .int (nI z))] [] (mkH ρ)) _
    rw [g_Model_passengers_93, if_pos (nI_le (Nat.le_refl _) (by omega)), c_Model_passengers_197 (g_Model_told_0 (d := d)), g_Model_passengers_200]
    refine RnI.mk ⟨(p1.wk rfl).tr (Ag.I (Ag.I Ag.rf rfl) rfl), rfl, p2, rfl, ?_⟩
    show sI ρ 3239 + 1 = _
    rw [p1.1 3239 rfl]
end FP
