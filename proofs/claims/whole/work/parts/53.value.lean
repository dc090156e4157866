/-! Loops with locals; how a rule is reckoned by the class -/
theorem lpG {α : Type} {P : Nat → α → Prop} {f : Nat → α → Option ax_R} {Q : Option ax_R → Prop} {n : Nat} (step : ∀ k a, k < n → P k a → (∀ b, P (k + 1) b → Q (f (k + 1) b)) → Q (f k a)) (fin : ∀ a, P n a → Q (f n a)) : ∀ (m k : Nat) (a : α), k + m = n → P k a → Q (f k a)
  | 0, k, a, hk, hp => by
    have : k = n := by omega
    subst this
    exact fin a hp
  | m + 1, k, a, hk, hp => step k a (by omega) hp (fun b hb => lpG step fin m (k + 1) b (by omega) hb)
theorem nI_dec (n : Nat) : nI (n + 1) + Int32.ofInt (-1) = nI n := by
  rw [nI_succ, m1, Int32.add_assoc, show (1 : Int32) + -1 = 0 from by decide, Int32.add_zero]
def joF (s l r : Int32) : Int32 := if s = 60 then (if r ≤ l then 0 else 1) else if s = 62 then (if l ≤ r then 0 else 1) else if s = 61 then (if l = r then 1 else 0) else if s = 43 then l + r else if s = 45 then l - r else if s = 42 then l * r else if r = 0 then 0 else l / r
theorem R_joined {d : Nat} {σ : Sg} {s l r : Int32} : ev (d + 1) 198 0 [(0, .int s), (1, .int l), (2, .int r)] [] (mkH σ) = rI σ (joF s l r) := by
  rw [g_Rule_joined_0]
  unfold joF
  by_cases h60 : s = 60
  · subst h60; rw [w_Rule_joined_1_60, g_Rule_joined_60, if_pos (show (60 : Int32) = 60 from rfl)]; split <;> rfl
  by_cases h62 : s = 62
  · subst h62; rw [w_Rule_joined_1_62, g_Rule_joined_71, if_neg (show ¬ (62 : Int32) = 60 by decide), if_pos (show (62 : Int32) = 62 from rfl)]; split <;> rfl
  by_cases h61 : s = 61
  · subst h61; rw [w_Rule_joined_1_61, g_Rule_joined_82, if_neg (show ¬ (61 : Int32) = 60 by decide), if_neg (show ¬ (61 : Int32) = 62 by decide), if_pos (show (61 : Int32) = 61 from rfl)]; split <;> rfl
  by_cases h43 : s = 43
  · subst h43; rw [w_Rule_joined_1_43, g_Rule_joined_93, if_neg (show ¬ (43 : Int32) = 60 by decide), if_neg (show ¬ (43 : Int32) = 62 by decide), if_neg (show ¬ (43 : Int32) = 61 by decide), if_pos (show (43 : Int32) = 43 from rfl)]
  by_cases h45 : s = 45
  · subst h45; rw [w_Rule_joined_1_45, g_Rule_joined_97, if_neg (show ¬ (45 : Int32) = 60 by decide), if_neg (show ¬ (45 : Int32) = 62 by decide), if_neg (show ¬ (45 : Int32) = 61 by decide), if_neg (show ¬ (45 : Int32) = 43 by decide), if_pos (show (45 : Int32) = 45 from rfl)]
  by_cases h42 : s = 42
  · subst h42; rw [w_Rule_joined_1_42, g_Rule_joined_101, if_neg (show ¬ (42 : Int32) = 60 by decide), if_neg (show ¬ (42 : Int32) = 62 by decide), if_neg (show ¬ (42 : Int32) = 61 by decide), if_neg (show ¬ (42 : Int32) = 43 by decide), if_neg (show ¬ (42 : Int32) = 45 by decide), if_pos (show (42 : Int32) = 42 from rfl)]
  rw [w_Rule_joined_1_d h42 h43 h45 h60 h61 h62, g_Rule_joined_105, if_neg h60, if_neg h62, if_neg h61, if_neg h43, if_neg h45, if_neg h42]
  by_cases h : r = 0
  · rw [if_pos h, if_pos h]
  · rw [if_neg h, if_neg h, if_neg h]
/-- one step of a rule on the stack -/
def rvS (th : Nat → Int32) (s : Int32) (q : Nat × (Nat → Int32)) : Nat × (Nat → Int32) :=
  if s ≤ -7 then
    (if s = -7 then (if q.1 = 0 then q else (q.1, upd q.2 (q.1 - 1) (-(q.2 (q.1 - 1)))))
     else if q.1 ≤ 1 then q else (q.1 - 1, upd q.2 (q.1 - 2) (joF (-s) (q.2 (q.1 - 2)) (q.2 (q.1 - 1)))))
  else (q.1 + 1, upd q.2 q.1 (if s < 0 then th (Int32.toNatClampNeg (-1 - s)) else s))
def rvN (st th : Nat → Int32) : Nat → Nat → (Nat × (Nat → Int32)) → (Nat × (Nat → Int32))
  | _, 0, q => q
  | i, n + 1, q => rvN st th (i + 1) n (rvS th (st i) q)
theorem rvN_add {st th : Nat → Int32} : ∀ (n i m : Nat) (q : Nat × (Nat → Int32)), rvN st th i (n + m) q = rvN st th (i + n) m (rvN st th i n q)
  | 0, i, m, q => by rw [Nat.zero_add]; rfl
  | n + 1, i, m, q => by
    rw [Nat.add_right_comm]
    show rvN st th (i + 1) (n + m) _ = _
    rw [rvN_add n (i + 1) m, Nat.add_right_comm i 1 n]
    rfl
/-- the steps from i to j bring E on top -/
def Seg (st : Nat → Int32) (i j : Nat) (E : (Nat → Int32) → Int32) : Prop := i ≤ j ∧ ∀ th t S, ∃ S', rvN st th i (j - i) (t, S) = (t + 1, S') ∧ (∀ k, k < t → S' k = S k) ∧ S' t = E th
def dflF (th : Nat → Int32) : Int32 := (th 0 + 1) / 2
/-- no need of the hour -/
def nohr (E : (Nat → Int32) → Int32) : Prop := ∀ a b c e m h h', E (th6 a b c e m h) = E (th6 a b c e m h')
def CR (σ : Sg) (u : Bool) (E : (Nat → Int32) → Int32) : Prop := ∃ m, m ≤ 40 ∧ sI σ (ri u 4) = nI m ∧ z1 (sI σ (ri u 5)) ∧ ((m = 0 ∧ E = dflF) ∨ (0 < m ∧ Seg (sA σ (ra u 0)) 0 m E)) ∧ (sI σ (ri u 5) = 0 → nohr E)
def kCR (u : Bool) : List Nat := [ri u 4, ri u 5, 10000 + ra u 0]
theorem CR.ag {σ τ : Sg} {u : Bool} {E : (Nat → Int32) → Int32} {K : List Nat} (h : CR σ u E) (g : Ag K σ τ) (hk : dj K (kCR u) = true) : CR τ u E := by
  have a0 := g.1 (ri u 4) (dj_m hk (by simp [kCR]))
  have a1 := g.1 (ri u 5) (dj_m hk (by simp [kCR]))
  have a2 := g.2.1 (ra u 0) (dj_m hk (by simp [kCR]))
  unfold CR
  rw [a0, a1, a2]
  exact h
def kV (u : Bool) : List Nat := [10000 + ra u 1, 10000 + ra u 2]
theorem th_ix {s : Int32} (h7 : ¬ s ≤ -7) (h0 : s < 0) : ax_ix (Int32.ofInt (-1) - s) 6 = true ∧ Int32.toNatClampNeg (Int32.ofInt (-1) - s) < 6 := by
  have h1 : ax_ix (Int32.ofInt (-1) - s) 6 = true := by
    rw [Int32.le_iff_toInt_le, show (-7 : Int32).toInt = -7 from by decide] at h7
    rw [Int32.lt_iff_toInt_lt, show (0 : Int32).toInt = 0 from by decide] at h0
    have : s = -1 ∨ s = -2 ∨ s = -3 ∨ s = -4 ∨ s = -5 ∨ s = -6 := by
      have hs : s.toInt = -1 ∨ s.toInt = -2 ∨ s.toInt = -3 ∨ s.toInt = -4 ∨ s.toInt = -5 ∨ s.toInt = -6 := by omega
      rcases hs with h | h | h | h | h | h
      · exact Or.inl (Int32.toInt_inj.mp (h.trans (by decide)))
      · exact Or.inr (Or.inl (Int32.toInt_inj.mp (h.trans (by decide))))
      · exact Or.inr (Or.inr (Or.inl (Int32.toInt_inj.mp (h.trans (by decide)))))
      · exact Or.inr (Or.inr (Or.inr (Or.inl (Int32.toInt_inj.mp (h.trans (by decide))))))
      · exact Or.inr (Or.inr (Or.inr (Or.inr (Or.inl (Int32.toInt_inj.mp (h.trans (by decide)))))))
      · exact Or.inr (Or.inr (Or.inr (Or.inr (Or.inr (Int32.toInt_inj.mp (h.trans (by decide)))))))
    rcases this with rfl | rfl | rfl | rfl | rfl | rfl <;> decide
  exact ⟨h1, ix_lt h1⟩
theorem R_value {d : Nat} {σ : Sg} {u : Bool} {E : (Nat → Int32) → Int32} {x1 x2 x3 x4 x5 x6 : Int32} (h : CR σ u E) : RnI (ev (d + 2) 197 0 [(0, .ref (ro u)), (1, .int x1), (2, .int x2), (3, .int x3), (4, .int x4), (5, .int x5), (6, .int x6)] [] (mkH σ)) (fun τ x => Ag (kV u) σ τ ∧ x = E (th6 x1 x2 x3 x4 x5 x6)) := by
  obtain ⟨m, hm, h4, h5, hE, _⟩ := h
  rw [g_Rule_value_0, h4]
  rcases hE with ⟨rfl, rfl⟩ | ⟨h0, hs⟩
  · rw [if_pos nI_0]; exact RnI.mk ⟨Ag.rf, rfl⟩
  rw [if_neg (nI_ne0 h0 (by omega))]
  have hk1 : (kV u).contains (10000 + ra u 1) = true := by cases u <;> rfl
  have hk2 : (kV u).contains (10000 + ra u 2) = true := by cases u <;> rfl
  have n12 : ra u 2 ≠ ra u 1 := by cases u <;> decide
  have nk4 : (kV u).contains (ri u 4) = false := by cases u <;> rfl
  have nk0 : (kV u).contains (10000 + ra u 0) = false := by cases u <;> rfl
  have e7 : (Int8.ofInt (-7)).toInt32 = -7 := by decide
  refine lpG (α := Sg × Int32) (n := m)
    (P := fun k a => ∃ t, a.2 = nI t ∧ t ≤ k ∧ Ag (kV u) σ a.1 ∧ (∀ j, j < 6 → sA a.1 (ra u 2) j = th6 x1 x2 x3 x4 x5 x6 j) ∧ rvN (sA σ (ra u 0)) (th6 x1 x2 x3 x4 x5 x6) k (m - k) (t, sA a.1 (ra u 1)) = rvN (sA σ (ra u 0)) (th6 x1 x2 x3 x4 x5 x6) 0 m (0, sA σ (ra u 1)))
    (f := fun k a => ev (d + 2) 197 64 [(0, .ref (ro u)), (1, .int x1), (2, .int x2), (3, .int x3), (4, .int x4), (5, .int x5), (6, .int x6), (7, .int a.2), (8, .int (nI k))] [] (mkH a.1))
    (Q := fun o => RnI o (fun τ x => Ag (kV u) σ τ ∧ x = E (th6 x1 x2 x3 x4 x5 x6))) ?_ ?_ m 0 (uA (uA (uA (uA (uA (uA σ (ra u 2) 0 x1) (ra u 2) 1 x2) (ra u 2) 2 x3) (ra u 2) 3 x4) (ra u 2) 4 x5) (ra u 2) 5 x6, 0) (by omega) ?_
  · rintro k ⟨ρ, z⟩ hk ⟨t, rfl, ht, ha, hth, hrv⟩ next
    show RnI (ev (d + 2) 197 64 [(0, .ref (ro u)), (1, .int x1), (2, .int x2), (3, .int x3), (4, .int x4), (5, .int x5), (6, .int x6), (7, .int (nI t)), (8, .int (nI k))] [] (mkH ρ)) _
    have hst : sA ρ (ra u 0) = sA σ (ra u 0) := ha.2.1 _ nk0
    rw [show m - k = (m - (k + 1)) + 1 by omega] at hrv
    have hrv : rvN (sA σ (ra u 0)) (th6 x1 x2 x3 x4 x5 x6) (k + 1) (m - (k + 1)) (rvS (th6 x1 x2 x3 x4 x5 x6) (sA σ (ra u 0) k) (t, sA ρ (ra u 1))) = _ := hrv
    rw [g_Rule_value_64, ha.1 _ nk4, h4, if_neg (nI_ge hk (by omega)), ixn (by omega) (by decide), cond_true, cln (by omega), hst, e7, nI_1]
    generalize hsv : sA σ (ra u 0) k = s at hrv
    unfold rvS at hrv
    by_cases c7 : s ≤ -7
    · rw [if_pos c7]
      rw [if_pos c7] at hrv
      by_cases e : s = -7
      · rw [if_pos e]
        rw [if_pos e] at hrv
        by_cases t0 : t = 0
        · subst t0
          rw [if_pos (by decide), if_pos (by decide)]
          rw [if_pos rfl] at hrv
          exact next (ρ, nI 0) ⟨0, rfl, by omega, ha, hth, hrv⟩
        · rw [if_neg (nI_nle (by omega) (by omega))]
          rw [if_neg t0] at hrv
          obtain ⟨v, rfl⟩ : ∃ v, t = v + 1 := ⟨t - 1, by omega⟩
          rw [nI_pred, ixn (by omega) (by decide), cond_true, cond_true, cln (by omega)]
          refine next (uA ρ (ra u 1) v (-(sA ρ (ra u 1) v)), nI (v + 1)) ⟨v + 1, rfl, by omega, ha.A hk1, fun j hj => ?_, ?_⟩
          · rw [A_A n12]; exact hth j hj
          · rw [A_S]; exact hrv
      · rw [if_neg e]
        rw [if_neg e] at hrv
        by_cases t1 : t ≤ 1
        · rw [if_pos (show nI t ≤ (1 : Int32) from nI_le (a := t) (b := 1) t1 (by omega))]
          rw [if_pos t1] at hrv
          exact next (ρ, nI t) ⟨t, rfl, by omega, ha, hth, hrv⟩
        · rw [if_neg (show ¬ nI t ≤ (1 : Int32) from nI_ge (a := 1) (b := t) (by omega) (by omega))]
          rw [if_neg t1] at hrv
          obtain ⟨v, rfl⟩ : ∃ v, t = v + 2 := ⟨t - 2, by omega⟩
          rw [nI_dec, nI_pred, ixn (k := v) (by omega) (by decide), ixn (k := v + 1) (by omega) (by decide), cond_true, cond_true, cln (by omega), cln (by omega), c_Rule_value_191 R_joined, g_Rule_value_194, ixn (k := v) (by omega) (by decide), cond_true, cln (by omega), nI_1]
          refine next (uA ρ (ra u 1) v _, nI (v + 1)) ⟨v + 1, rfl, by omega, ha.A hk1, fun j hj => ?_, ?_⟩
          · rw [A_A n12]; exact hth j hj
          · rw [A_S]; exact hrv
    · rw [if_neg c7]
      rw [if_neg c7] at hrv
      by_cases s0 : s < 0
      · obtain ⟨i1, i2⟩ := th_ix c7 s0
        rw [if_pos s0, i1, cond_true, ixn (by omega) (by decide), cond_true, cln (by omega), nI_1, hth _ i2]
        rw [if_pos s0] at hrv
        refine next (uA ρ (ra u 1) t _, nI (t + 1)) ⟨t + 1, rfl, by omega, ha.A hk1, fun j hj => ?_, ?_⟩
        · rw [A_A n12]; exact hth j hj
        · rw [A_S]; exact hrv
      · rw [if_neg s0, ixn (by omega) (by decide), cond_true, cln (by omega), nI_1]
        rw [if_neg s0] at hrv
        refine next (uA ρ (ra u 1) t _, nI (t + 1)) ⟨t + 1, rfl, by omega, ha.A hk1, fun j hj => ?_, ?_⟩
        · rw [A_A n12]; exact hth j hj
        · rw [A_S]; exact hrv
  · rintro ⟨ρ, z⟩ ⟨t, rfl, ht, ha, hth, hrv⟩
    show RnI (ev (d + 2) 197 64 [(0, .ref (ro u)), (1, .int x1), (2, .int x2), (3, .int x3), (4, .int x4), (5, .int x5), (6, .int x6), (7, .int (nI t)), (8, .int (nI m))] [] (mkH ρ)) _
    rw [g_Rule_value_64, ha.1 _ nk4, h4, if_pos (nI_le (Nat.le_refl m) (by omega))]
    refine RnI.mk ⟨ha, ?_⟩
    obtain ⟨S', e1, e2, e3⟩ := hs.2 (th6 x1 x2 x3 x4 x5 x6) 0 (sA σ (ra u 1))
    rw [Nat.sub_zero] at e1
    rw [Nat.sub_self, e1] at hrv
    have : sA ρ (ra u 1) = S' := (Prod.mk.inj hrv).2
    rw [this]; exact e3
  · refine ⟨0, rfl, Nat.le_refl _, ?_, fun j hj => ?_, ?_⟩
    · exact Ag.A (Ag.A (Ag.A (Ag.A (Ag.A (Ag.A Ag.rf hk2) hk2) hk2) hk2) hk2) hk2
    · match j, hj with
      | 0, _ => simp only [A_at]; rfl
      | 1, _ => simp only [A_at]; rfl
      | 2, _ => simp only [A_at]; rfl
      | 3, _ => simp only [A_at]; rfl
      | 4, _ => simp only [A_at]; rfl
      | 5, _ => simp only [A_at]; rfl
    · simp only [A_A (Ne.symm n12)]; rfl
