/-! rules: steps and their values; letters and numbers -/
section R1
variable {st st' : Nat → Int32} {i j k l : Nat} {E E0 E1 : (Nat → Int32) → Int32} {s : Int32}
theorem rvN_congr {th : Nat → Int32} : ∀ (n i : Nat) (q : Nat × (Nat → Int32)), (∀ j, i ≤ j → j < i + n → st' j = st j) → rvN st' th i n q = rvN st th i n q
  | 0, _, _, _ => rfl
  | n + 1, i, q, h => by
    show rvN st' th (i + 1) n (rvS th (st' i) q) = rvN st th (i + 1) n (rvS th (st i) q)
    rw [h i (Nat.le_refl _) (by omega)]
    exact rvN_congr n (i + 1) _ (fun j h1 h2 => h j (by omega) (by omega))
theorem Seg.cg (h : Seg st i j E) (e : ∀ l, i ≤ l → l < j → st' l = st l) : Seg st' i j E := by
  refine ⟨h.1, fun th t S => ?_⟩
  have := h.1
  rw [rvN_congr (st := st) (j - i) i (t, S) (fun l h1 h2 => e l h1 (by omega))]
  exact h.2 th t S
theorem Seg.one (h : ¬ s ≤ -7) (e : st k = s) : Seg st k (k + 1) (fun th => if s < 0 then th (Int32.toNatClampNeg (-1 - s)) else s) := by
  refine ⟨by omega, fun th t S => ⟨upd S t (if s < 0 then th (Int32.toNatClampNeg (-1 - s)) else s), ?_, fun l hl => upN (by omega), upS⟩⟩
  rw [show k + 1 - k = 1 by omega]
  show rvS th (st k) (t, S) = _
  rw [e]
  unfold rvS
  rw [if_neg h]
theorem Seg.jn (h0 : Seg st i j E0) (h1 : Seg st j l E1) (e : st l = s) (hs : s ≤ -7) (hs2 : ¬ s = -7) : Seg st i (l + 1) (fun th => joF (-s) (E0 th) (E1 th)) := by
  have l0 := h0.1
  have l1 := h1.1
  refine ⟨by omega, fun th t S => ?_⟩
  obtain ⟨S1, a1, a2, a3⟩ := h0.2 th t S
  obtain ⟨S2, b1, b2, b3⟩ := h1.2 th (t + 1) S1
  refine ⟨upd S2 t (joF (-s) (E0 th) (E1 th)), ?_, fun k hk => ?_, upS⟩
  · rw [show l + 1 - i = (j - i) + ((l - j) + 1) by omega, rvN_add, a1, show i + (j - i) = j by omega, rvN_add, b1, show j + (l - j) = l by omega]
    show rvS th (st l) (t + 1 + 1, S2) = _
    rw [e]
    unfold rvS
    rw [if_pos hs, if_neg hs2, if_neg (show ¬ t + 1 + 1 ≤ 1 by omega)]
    show (t + 1 + 1 - 1, upd S2 (t + 1 + 1 - 2) (joF (-s) (S2 (t + 1 + 1 - 2)) (S2 (t + 1 + 1 - 1)))) = _
    rw [show t + 1 + 1 - 1 = t + 1 by omega, show t + 1 + 1 - 2 = t by omega, b2 t (by omega), a3, b3]
  · rw [upN (by omega), b2 k (by omega), a2 k hk]
theorem Seg.ng (h : Seg st i j E) (e : st j = -7) : Seg st i (j + 1) (fun th => -(E th)) := by
  have l0 := h.1
  refine ⟨by omega, fun th t S => ?_⟩
  obtain ⟨S1, a1, a2, a3⟩ := h.2 th t S
  refine ⟨upd S1 t (-(E th)), ?_, fun k hk => ?_, upS⟩
  · rw [show j + 1 - i = (j - i) + 1 by omega, rvN_add, a1, show i + (j - i) = j by omega]
    show rvS th (st j) (t + 1, S1) = _
    rw [e]
    unfold rvS
    rw [if_pos (by decide), if_pos rfl, if_neg (show ¬ t + 1 = 0 by omega)]
    show (t + 1, upd S1 (t + 1 - 1) (-(S1 (t + 1 - 1)))) = _
    rw [show t + 1 - 1 = t by omega, a3]
  · rw [upN (by omega), a2 k hk]
theorem nohr_jo (h0 : nohr E0) (h1 : nohr E1) : nohr (fun th => joF s (E0 th) (E1 th)) := fun a b c e m h h' => by
  show joF s (E0 (th6 a b c e m h)) (E1 (th6 a b c e m h)) = joF s (E0 (th6 a b c e m h')) (E1 (th6 a b c e m h'))
  rw [h0 a b c e m h h', h1 a b c e m h h']
theorem nohr_ng (h0 : nohr E) : nohr (fun th => -(E th)) := fun a b c e m h h' => by
  show -(E (th6 a b c e m h)) = -(E (th6 a b c e m h'))
  rw [h0 a b c e m h h']
end R1
def kRu (u : Bool) : List Nat := [66, ri u 4, ri u 5, 10000 + ra u 0]
def ltF (x : Int32) : Nat := if x = 98 then 0 else if x = 108 then 1 else if x = 99 then 2 else if x = 112 then 3 else if x = 109 then 4 else if x = 110 then 5 else 6
def nuN (T : Nat → Int32) (e a : Nat) : Nat := if inF (heF T e (a + 1)) 48 57 = 0 then 1 else if inF (heF T e (a + 2)) 48 57 = 0 then 2 else 3
def nuV (T : Nat → Int32) (e a : Nat) : Nat := if inF (heF T e (a + 1)) 48 57 = 0 then Int32.toNatClampNeg (heF T e a - 48) else if inF (heF T e (a + 2)) 48 57 = 0 then 10 * Int32.toNatClampNeg (heF T e a - 48) + Int32.toNatClampNeg (heF T e (a + 1) - 48) else 10 * (10 * Int32.toNatClampNeg (heF T e a - 48) + Int32.toNatClampNeg (heF T e (a + 1) - 48)) + Int32.toNatClampNeg (heF T e (a + 2) - 48)
section R2
variable {d n m a e k : Nat} {u : Bool} {σ τ : Sg} {T : Nat → Int32} {s x : Int32}
theorem K_emit (h4 : sI σ (ri u 4) = nI k) (hk : k < 40) (h5 : z1 (sI σ (ri u 5))) : ∃ τ, ev (d + 1) 195 0 [(0, .ref (ro u)), (1, .int s)] [] (mkH σ) = rI τ 1 ∧ Ag (kCR u) σ τ ∧ sI τ (ri u 4) = nI (k + 1) ∧ sA τ (ra u 0) = upd (sA σ (ra u 0)) k s ∧ z1 (sI τ (ri u 5)) ∧ (sI τ (ri u 5) = 0 → sI σ (ri u 5) = 0 ∧ ¬ s = -6) := by
  obtain ⟨o1, o2, o3, o4⟩ := or_z h5
  have e6 : (Int8.ofInt (-6)).toInt32 = -6 := by decide
  rw [g_Rule_emit_0, h4, if_pos (show nI k < (40 : Int32) from nI_lt (a := k) (b := 40) hk (by decide)), ixn hk (by decide), cond_true, cln (n := k) (by omega), e6, nI_1]
  by_cases h6 : s = -6
  · rw [if_pos h6, if_pos (show sI σ (ri u 5) ||| 1 = 0 ∨ sI σ (ri u 5) ||| 1 = 1 from o2)]
    refine ⟨_, rfl, ?_, ?_, ?_, ?_, ?_⟩
    · cases u
      · exact Ag.I (Ag.I (Ag.A Ag.rf rfl) rfl) rfl
      · exact Ag.I (Ag.I (Ag.A Ag.rf rfl) rfl) rfl
    · cases u <;> rfl
    · cases u <;> rfl
    · cases u <;> exact o2
    · cases u <;> exact fun q => absurd q o4
  · rw [if_neg h6, if_pos (show sI σ (ri u 5) ||| 0 = 0 ∨ sI σ (ri u 5) ||| 0 = 1 from o1)]
    refine ⟨_, rfl, ?_, ?_, ?_, ?_, ?_⟩
    · cases u
      · exact Ag.I (Ag.I (Ag.A Ag.rf rfl) rfl) rfl
      · exact Ag.I (Ag.I (Ag.A Ag.rf rfl) rfl) rfl
    · cases u <;> rfl
    · cases u <;> rfl
    · cases u <;> exact o1
    · cases u <;> exact fun q => ⟨o3 q, h6⟩
theorem K_lt1 {i : Nat} (hi : i < 6) : ev (d + 1) 193 2 [(0, .int x), (1, .int (nI i))] [] (mkH σ) = if x = ([98, 108, 99, 112, 109, 110] : List Int32).getD i 0 then rI σ (-1 - nI i) else ev (d + 1) 193 2 [(0, .int x), (1, .int (nI (i + 1)))] [] (mkH σ) := by
  rw [g_Rule_letterOf_2, if_neg (show ¬ (6 : Int32) ≤ nI i from nI_ge (a := i) (b := 6) hi (by decide)), ixn hi (by decide), cond_true, cln (n := i) (by omega), m1, nI_1]
  by_cases q : x = ([98, 108, 99, 112, 109, 110] : List Int32).getD i 0
  · rw [if_pos q, if_pos q.symm]
  · rw [if_neg q, if_neg (fun z => q z.symm)]
theorem K_letter : ev (d + 1) 193 0 [(0, .int x)] [] (mkH σ) = rI σ (if ltF x < 6 then -1 - nI (ltF x) else 0) := by
  have g0 : ev (d + 1) 193 0 [(0, .int x)] [] (mkH σ) = ev (d + 1) 193 2 [(0, .int x), (1, .int (nI 0))] [] (mkH σ) := g_Rule_letterOf_0
  rw [g0, K_lt1 (i := 0) (by decide), K_lt1 (i := 1) (by decide), K_lt1 (i := 2) (by decide), K_lt1 (i := 3) (by decide), K_lt1 (i := 4) (by decide), K_lt1 (i := 5) (by decide), g_Rule_letterOf_2, if_pos (show (6 : Int32) ≤ nI (5 + 1) by decide)]
  unfold ltF
  show (if x = 98 then _ else if x = 108 then _ else if x = 99 then _ else if x = 112 then _ else if x = 109 then _ else if x = 110 then _ else _) = _
  by_cases h0 : x = 98
  · rw [if_pos h0, if_pos h0]; rfl
  rw [if_neg h0, if_neg h0]
  by_cases h1 : x = 108
  · rw [if_pos h1, if_pos h1]; rfl
  rw [if_neg h1, if_neg h1]
  by_cases h2 : x = 99
  · rw [if_pos h2, if_pos h2]; rfl
  rw [if_neg h2, if_neg h2]
  by_cases h3 : x = 112
  · rw [if_pos h3, if_pos h3]; rfl
  rw [if_neg h3, if_neg h3]
  by_cases h4 : x = 109
  · rw [if_pos h4, if_pos h4]; rfl
  rw [if_neg h4, if_neg h4]
  by_cases h5 : x = 110
  · rw [if_pos h5, if_pos h5]; rfl
  rw [if_neg h5, if_neg h5]; rfl
theorem M_letter : ev (d + 1) 41 0 [(0, .int x)] [] (mkH σ) = rI σ (if ltF x < 6 then nI (ltF x) else -1) := by
  rw [g_Model_letterOf_0, m1]
  unfold ltF
  by_cases h0 : x = 98
  · rw [if_pos h0, if_pos h0]; rfl
  rw [if_neg h0, if_neg h0]
  by_cases h1 : x = 108
  · rw [if_pos h1, if_pos h1]; rfl
  rw [if_neg h1, if_neg h1]
  by_cases h2 : x = 99
  · rw [if_pos h2, if_pos h2]; rfl
  rw [if_neg h2, if_neg h2]
  by_cases h3 : x = 112
  · rw [if_pos h3, if_pos h3]; rfl
  rw [if_neg h3, if_neg h3]
  by_cases h4 : x = 109
  · rw [if_pos h4, if_pos h4]; rfl
  rw [if_neg h4, if_neg h4]
  by_cases h5 : x = 110
  · rw [if_pos h5, if_pos h5]; rfl
  rw [if_neg h5, if_neg h5]; rfl
theorem K_take (h : CT σ T e a) : ev (d + 2) 205 0 [(0, .ref 1), (1, .int x)] [] (mkH σ) = if heF T e a = x then rI (uI σ 66 (nI (a + 1))) 1 else rI σ 0 := by
  rw [g_Script_take_0, c_Script_take_1 (C_look h), g_Script_take_4, h.1, nI_1]
theorem m10 (a b : Nat) : nI a * (10 : Int32) + nI b = nI (10 * a + b) := by
  rw [show nI a * (10 : Int32) = nI (10 * a) from by rw [Nat.mul_comm]; exact (Int32.ofNat_mul a 10).symm, nI_add]
theorem m10' (a b : Nat) : (10 : Int32) * nI a + nI b = nI (10 * a + b) := by
  rw [show (10 : Int32) * nI a = nI (10 * a) from (Int32.ofNat_mul 10 a).symm, nI_add]
theorem K_num (h : CT σ T e a) (ha : a ≤ 900) (h0 : ¬ inF (heF T e a) 48 57 = 0) (h4 : sI σ (ri u 4) = nI k) (hk : k < 40) (h5 : z1 (sI σ (ri u 5))) : ∃ τ, ev (d + 2) 194 0 [(0, .ref (ro u))] [] (mkH σ) = rI τ 1 ∧ Ag (kRu u) σ τ ∧ CT τ T e (a + nuN T e a) ∧ sI τ (ri u 4) = nI (k + 1) ∧ sA τ (ra u 0) = upd (sA σ (ra u 0)) k (nI (nuV T e a)) ∧ z1 (sI τ (ri u 5)) ∧ (sI τ (ri u 5) = 0 → sI σ (ri u 5) = 0) := by
  obtain ⟨j, j1, j2, j3⟩ := dg_n h0
  have hd := C_dig (d := d) h
  rw [if_neg h0, j2] at hd
  have t1 : CT (uI σ 66 (nI (a + 1))) T e (a + 1) := h.nx (by omega) rfl
  have fin : ∀ {ρ : Sg} {x2 x3 : Int32} {b v : Nat}, Ag [66] σ ρ → CT ρ T e b → b = a + nuN T e a → v = nuV T e a → ∃ τ, ev (d + 2) 194 53 [(0, .ref (ro u)), (1, .int (nI v)), (2, .int x2), (3, .int x3)] [.int (nI v), .ref (ro u)] (mkH ρ) = rI τ 1 ∧ Ag (kRu u) σ τ ∧ CT τ T e (a + nuN T e a) ∧ sI τ (ri u 4) = nI (k + 1) ∧ sA τ (ra u 0) = upd (sA σ (ra u 0)) k (nI (nuV T e a)) ∧ z1 (sI τ (ri u 5)) ∧ (sI τ (ri u 5) = 0 → sI σ (ri u 5) = 0) := fun {ρ} {x2} {x3} {b} {v} g1 g2 g3 g4 => by
    have r4 : sI ρ (ri u 4) = nI k := (g1.1 (ri u 4) (by cases u <;> rfl)).trans h4
    have e5 : sI ρ (ri u 5) = sI σ (ri u 5) := g1.1 (ri u 5) (by cases u <;> rfl)
    have ea : sA ρ (ra u 0) = sA σ (ra u 0) := g1.2.1 (ra u 0) (by cases u <;> rfl)
    obtain ⟨τ, k1, k2, k3, k4, k5, k6⟩ := K_emit (d := d) (s := nI v) r4 hk (by rw [e5]; exact h5)
    refine ⟨τ, ?_, ?_, ?_, k3, ?_, k5, fun q => ?_⟩
    · rw [c_Rule_number_53 k1, g_Rule_number_56, if_pos (Or.inr rfl)]
    · exact (g1.wk (by cases u <;> rfl)).tr (k2.wk (by cases u <;> rfl))
    · rw [← g3]; exact g2.ag k2 (by cases u <;> rfl)
    · rw [k4, ea, g4]
    · rw [← e5]; exact (k6 q).1
  have z10 : (0 : Int32) * 10 + nI j = nI j := by
    rw [show (0 : Int32) * 10 = 0 by decide, Int32.zero_add]
  rw [g_Rule_number_0, c_Rule_number_6 hd, g_Rule_number_9, g_Rule_number_12, if_neg (show ¬ (3 : Int32) ≤ 0 by decide), if_neg (nI_pos (show j < 2147483648 by omega)), if_neg (show ¬ (2 : Int32) ≤ 0 by decide), z10]
  have a1 : Ag [66] σ (uI σ 66 (nI (a + 1))) := Ag.I Ag.rf rfl
  generalize uI σ 66 (nI (a + 1)) = σ1 at t1 a1
  clear hd
  have hd1 := C_dig (d := d) t1
  by_cases c1 : inF (heF T e (a + 1)) 48 57 = 0
  · rw [if_pos c1] at hd1
    rw [c_Rule_number_37 hd1, g_Rule_number_40, g_Rule_number_12, if_neg (show ¬ (3 : Int32) ≤ 0 + 1 by decide), if_pos (show (-1 : Int32) < 0 by decide)]
    exact fin a1 t1 (by unfold nuN; rw [if_pos c1]) (by unfold nuV; rw [if_pos c1, j2, cln (n := j) (by omega)])
  · obtain ⟨i, i1, i2, i3⟩ := dg_n c1
    rw [if_neg c1, i2] at hd1
    have t2 : CT (uI σ1 66 (nI (a + 1 + 1))) T e (a + 2) := t1.nx (by omega) rfl
    have a2 : Ag [66] σ (uI σ1 66 (nI (a + 1 + 1))) := a1.tr (Ag.I Ag.rf rfl)
    rw [c_Rule_number_37 hd1, g_Rule_number_40, g_Rule_number_12, if_neg (show ¬ (3 : Int32) ≤ 0 + 1 by decide), if_neg (nI_pos (show i < 2147483648 by omega)), if_neg (show ¬ (2 : Int32) ≤ 0 + 1 by decide), m10]
    generalize uI σ1 66 (nI (a + 1 + 1)) = σ2 at t2 a2
    clear hd1
    have hd2 := C_dig (d := d) t2
    by_cases c2 : inF (heF T e (a + 2)) 48 57 = 0
    · rw [if_pos c2] at hd2
      rw [c_Rule_number_37 hd2, g_Rule_number_40, g_Rule_number_12, if_neg (show ¬ (3 : Int32) ≤ 0 + 1 + 1 by decide), if_pos (show (-1 : Int32) < 0 by decide)]
      exact fin a2 t2 (by unfold nuN; rw [if_neg c1, if_pos c2]) (by unfold nuV; rw [if_neg c1, if_pos c2, j2, i2, cln (n := j) (by omega), cln (n := i) (by omega)])
    · obtain ⟨l, l1, l2, l3⟩ := dg_n c2
      rw [if_neg c2, l2] at hd2
      have t3 : CT (uI σ2 66 (nI (a + 2 + 1))) T e (a + 3) := t2.nx (by omega) rfl
      have a3 : Ag [66] σ (uI σ2 66 (nI (a + 2 + 1))) := a2.tr (Ag.I Ag.rf rfl)
      rw [c_Rule_number_37 hd2, g_Rule_number_40, g_Rule_number_12, if_neg (show ¬ (3 : Int32) ≤ 0 + 1 + 1 by decide), if_neg (nI_pos (show l < 2147483648 by omega)), if_pos (show (2 : Int32) ≤ 0 + 1 + 1 by decide), m10, g_Rule_number_12, if_pos (show (3 : Int32) ≤ 0 + 1 + 1 + 1 by decide)]
      exact fin a3 t3 (by unfold nuN; rw [if_neg c1, if_neg c2]) (by unfold nuV; rw [if_neg c1, if_neg c2, j2, i2, l2, cln (n := j) (by omega), cln (n := i) (by omega), cln (n := l) (by omega)])
theorem nu_v (h0 : ¬ inF (heF T e a) 48 57 = 0) : nuV T e a ≤ 999 := by
  obtain ⟨j, j1, j2, j3⟩ := dg_n h0
  unfold nuV
  by_cases c1 : inF (heF T e (a + 1)) 48 57 = 0
  · rw [if_pos c1, j2, cln (n := j) (by omega)]; omega
  · obtain ⟨i, i1, i2, i3⟩ := dg_n c1
    rw [if_neg c1]
    by_cases c2 : inF (heF T e (a + 2)) 48 57 = 0
    · rw [if_pos c2, j2, i2, cln (n := j) (by omega), cln (n := i) (by omega)]; omega
    · obtain ⟨l, l1, l2, l3⟩ := dg_n c2
      rw [if_neg c2, j2, i2, l2, cln (n := j) (by omega), cln (n := i) (by omega), cln (n := l) (by omega)]; omega
theorem nu_lt (h0 : ¬ inF (heF T e a) 48 57 = 0) : 1 ≤ nuN T e a ∧ a + nuN T e a ≤ e := by
  obtain ⟨j, j1, j2, j3⟩ := dg_n h0
  have l0 := he_lt j3 (by omega)
  unfold nuN
  by_cases c1 : inF (heF T e (a + 1)) 48 57 = 0
  · rw [if_pos c1]; omega
  · obtain ⟨i, i1, i2, i3⟩ := dg_n c1
    have l1 := he_lt i3 (by omega)
    rw [if_neg c1]
    by_cases c2 : inF (heF T e (a + 2)) 48 57 = 0
    · rw [if_pos c2]; omega
    · obtain ⟨l, l1, l2, l3⟩ := dg_n c2
      have l4 := he_lt l3 (by omega)
      rw [if_neg c2]; omega
theorem M_num (h : RD σ T n m a) (hw : sI σ 3215 = -1) (ha : a ≤ 900) (h0 : ¬ inF (heF T (min n m) a) 48 57 = 0) : RnI (ev (d + 4) 28 0 [(0, .ref 50), (1, .int 3)] [] (mkH σ)) (fun τ x => Ag [3214] σ τ ∧ RD τ T n m (a + nuN T (min n m) a) ∧ x = nI (nuV T (min n m) a)) := by
  have e9 : (48 : Int32) + 10 - 1 = 57 := by decide
  obtain ⟨j, j1, j2, j3⟩ := dg_n h0
  have o1 := N_one1 (d := d) (x := 48) (y := 10) h hw (fun q hq => in_j hq (a := 48) (b := 57) rfl (by decide) (by decide) (by decide))
  rw [e9, if_neg h0, j2] at o1
  have h1 : RD (uI σ 3214 (nI (a + 1))) T n m (a + 1) := h.nx (by omega) rfl
  have a1 : Ag [3214] σ (uI σ 3214 (nI (a + 1))) := Ag.I Ag.rf rfl
  have w1 : sI (uI σ 3214 (nI (a + 1))) 3215 = -1 := hw
  rw [g_Model_number_0, c_Model_number_5 o1, g_Model_number_8]
  generalize uI σ 3214 (nI (a + 1)) = s1 at h1 a1 w1
  clear o1
  rw [g_Model_number_11, if_neg (show ¬ (3 : Int32) ≤ 1 by decide), c_Model_number_17 (N_fine1 (d := d + 2) w1), g_Model_number_20, if_neg (show ¬ (1 : Int32) = 0 by decide), c_Model_number_24 (N_here (d := d + 2) h1), g_Model_number_27, c_Model_number_31 (N_inF (d := d + 2)), g_Model_number_34]
  by_cases c1 : inF (heF T (min n m) (a + 1)) 48 57 = 0
  · rw [if_pos c1]
    refine RnI.mk ⟨a1, ?_, ?_⟩
    · unfold nuN; rw [if_pos c1]; exact h1
    · unfold nuV; rw [if_pos c1, j2, cln (n := j) (by omega)]
  · obtain ⟨i, i1, i2, i3⟩ := dg_n c1
    have o2 := N_one1 (d := d) (x := 48) (y := 10) h1 w1 (fun q hq => in_j hq (a := 48) (b := 57) rfl (by decide) (by decide) (by decide))
    rw [e9, if_neg c1, i2] at o2
    have h2 : RD (uI s1 3214 (nI (a + 1 + 1))) T n m (a + 2) := h1.nx (by omega) rfl
    have a2 : Ag [3214] σ (uI s1 3214 (nI (a + 1 + 1))) := a1.tr (Ag.I Ag.rf rfl)
    have w2 : sI (uI s1 3214 (nI (a + 1 + 1))) 3215 = -1 := w1
    rw [if_neg c1, c_Model_number_46 o2, g_Model_number_49, m10']
    generalize uI s1 3214 (nI (a + 1 + 1)) = s2 at h2 a2 w2
    clear o2
    rw [g_Model_number_11, if_neg (show ¬ (3 : Int32) ≤ 1 + 1 by decide), c_Model_number_17 (N_fine1 (d := d + 2) w2), g_Model_number_20, if_neg (show ¬ (1 : Int32) = 0 by decide), c_Model_number_24 (N_here (d := d + 2) h2), g_Model_number_27, c_Model_number_31 (N_inF (d := d + 2)), g_Model_number_34]
    by_cases c2 : inF (heF T (min n m) (a + 2)) 48 57 = 0
    · rw [if_pos c2]
      refine RnI.mk ⟨a2, ?_, ?_⟩
      · unfold nuN; rw [if_neg c1, if_pos c2]; exact h2
      · unfold nuV; rw [if_neg c1, if_pos c2, j2, i2, cln (n := j) (by omega), cln (n := i) (by omega)]
    · obtain ⟨l, l1, l2, l3⟩ := dg_n c2
      have o3 := N_one1 (d := d) (x := 48) (y := 10) h2 w2 (fun q hq => in_j hq (a := 48) (b := 57) rfl (by decide) (by decide) (by decide))
      rw [e9, if_neg c2, l2] at o3
      have h3 : RD (uI s2 3214 (nI (a + 2 + 1))) T n m (a + 3) := h2.nx (by omega) rfl
      rw [if_neg c2, c_Model_number_46 o3, g_Model_number_49, m10', g_Model_number_11, if_pos (show (3 : Int32) ≤ 1 + 1 + 1 by decide)]
      refine RnI.mk ⟨a2.tr (Ag.I Ag.rf rfl), ?_, ?_⟩
      · unfold nuN; rw [if_neg c1, if_neg c2]; exact h3
      · unfold nuV; rw [if_neg c1, if_neg c2, j2, i2, l2, cln (n := j) (by omega), cln (n := i) (by omega), cln (n := l) (by omega)]
end R2
