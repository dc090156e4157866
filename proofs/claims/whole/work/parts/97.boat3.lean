/-! barges: a line, by the reference -/
section BT3
variable {d n m a b c e : Nat} {σ τ : Sg} {T r : Nat → Int32} {W : Wd} {f : Nat → Int32} {x y : Int32}
theorem fr_loop {s : Sg} {p : Int32} (hc : c ≤ 9) (he : ∀ i, i < c → sA s 56 (3 * i) = r i) : ∀ (k i : Nat) (u : Bool), i + k = c → ev (d + 1) 34 82 [(0, .ref 50), (1, .int (nI c)), (2, .int p), (3, .int (bif u then 1 else 0)), (4, .int (nI i))] [] (mkH s) = ev (d + 1) 34 118 [(0, .ref 50), (1, .int (nI c)), (2, .int p), (3, .int (bif u && allF (fun j => !(r (i + j) == p)) k then 1 else 0)), (4, .int (nI c))] [.ref 50] (mkH s) := by
  intro k
  induction k with
  | zero =>
    intro i u hi
    have : i = c := by omega
    subst this
    rw [g_Model_readBarge_82, if_pos (nI_le (Nat.le_refl _) (by omega))]
    show _ = ev (d + 1) 34 118 [(0, .ref 50), (1, .int (nI i)), (2, .int p), (3, .int (bif u && true then 1 else 0)), (4, .int (nI i))] [.ref 50] (mkH s)
    rw [Bool.and_true]
  | succ k ih =>
    intro i u hi
    have al : allF (fun j => !(r (i + j) == p)) (k + 1) = (!(r i == p) && allF (fun j => !(r (i + 1 + j) == p)) k) := by
      have key : ∀ k, allF (fun j => !(r (i + j) == p)) (k + 1) = (!(r i == p) && allF (fun j => !(r (i + 1 + j) == p)) k) := by
        intro k
        induction k with
        | zero => show (true && !(r (i + 0) == p)) = (!(r i == p) && true); rw [Bool.true_and, Bool.and_true]; rfl
        | succ k ihk =>
          show (allF (fun j => !(r (i + j) == p)) (k + 1) && !(r (i + (k + 1)) == p)) = (!(r i == p) && (allF (fun j => !(r (i + 1 + j) == p)) k && !(r (i + 1 + k) == p)))
          rw [ihk, Bool.and_assoc, show i + (k + 1) = i + 1 + k by omega]
      exact key k
    rw [g_Model_readBarge_82, if_neg (nI_ge (by omega) (by omega)), nI_1, al]
    cases u with
    | false =>
      rw [cond_false, if_pos rfl]
      have := ih (i + 1) false (by omega)
      rw [Bool.false_and] at this ⊢
      exact this
    | true =>
      rw [cond_true, if_neg (by decide), show (3 : Int32) * nI i = nI (3 * i) from (Int32.ofNat_mul 3 i).symm, ixn (k := 3 * i) (by omega) (by decide), cond_true, cln (n := 3 * i) (by omega), he i (by omega), Bool.true_and]
      by_cases z : r i = p
      · rw [if_pos z, beq_t z]
        have := ih (i + 1) false (by omega)
        rw [Bool.false_and] at this
        exact this
      · rw [if_neg z, beq_f z]
        have := ih (i + 1) true (by omega)
        rw [Bool.true_and] at this
        exact this
/-- what is wrong stays wrong -/
theorem M_bt0 {s : Sg} {b : Nat} {x2 x3 x4 : Int32} (hc : c ≤ 9) (hb : b ≤ 1000) (h : RD s T n m b) (hw : ¬ sI s 3215 = -1) : RnV (ev (d + 4) 34 157 [(0, .ref 50), (1, .int (nI c)), (2, .int x2), (3, .int x3), (4, .int x4)] [.ref 50, .int (nI (3 * c + 1)), .ref 56] (mkH s)) (fun τ => Ag [3214, 10056] s τ ∧ RD τ T n m (b + 1)) := by
  have e2 : (3 : Int32) * nI c + 2 = nI (3 * c + 2) := by
    rw [show (3 : Int32) * nI c = nI (3 * c) from (Int32.ofNat_mul 3 c).symm]; exact nI_add (3 * c) 2
  rw [c_Model_readBarge_157 (N_here (d := d + 2) h), g_Model_readBarge_160, ixn (k := 3 * c + 1) (by omega) (by decide), cond_true, cond_true, cln (n := 3 * c + 1) (by omega)]
  have key : ∀ v : Int32, RnV (ev (d + 4) 34 172 [(0, .ref 50), (1, .int (nI c)), (2, .int x2), (3, .int x3), (4, .int x4)] [.ref 50] (mkH (uA s 56 (3 * c + 1) v))) (fun τ => Ag [3214, 10056] s τ ∧ RD τ T n m (b + 1)) := fun v => by
    have a1 : Ag [3214, 10056] s (uA s 56 (3 * c + 1) v) := Ag.A Ag.rf rfl
    have a0 : Ag [10056] s (uA s 56 (3 * c + 1) v) := Ag.A Ag.rf rfl
    have h1 := h.ag a0 rfl
    have w1 : ¬ sI (uA s 56 (3 * c + 1) v) 3215 = -1 := hw
    generalize uA s 56 (3 * c + 1) v = s1 at a1 a0 h1 w1
    have h2 : RD (uI s1 3214 (nI (b + 1))) T n m (b + 1) := h1.nx (by omega) rfl
    have w2 : ¬ sI (uI s1 3214 (nI (b + 1))) 3215 = -1 := w1
    have a2 : Ag [10056] (uI s1 3214 (nI (b + 1))) (uA (uI s1 3214 (nI (b + 1))) 56 (3 * c + 2) 0) := Ag.A Ag.rf rfl
    rw [c_Model_readBarge_172 (N_fine0 (d := d + 2) w1), g_Model_readBarge_175, if_pos rfl, h1.2.2.1, nI_1, e2, c_Model_readBarge_228 (N_one0 (d := d) h2 w2), g_Model_readBarge_231, ixn (k := 3 * c + 2) (by omega) (by decide), cond_true, cln (n := 3 * c + 2) (by omega)]
    exact RnV.mk ⟨a1.tr (Ag.A (Ag.I Ag.rf rfl) rfl), h2.ag a2 rfl⟩
  split
  · exact key 1
  · exact key 0
/-- the sign and the cargo -/
theorem M_bt1 {s : Sg} {A : Nat} {x2 x3 x4 : Int32} (hc : c ≤ 9) (hA : A ≤ 1000) (h : RD s T n m A) (hw : sI s 3215 = -1) :
    (∀ q, (if heF T (min n m) A = 43 ∨ heF T (min n m) A = 45 then (if inF (heF T (min n m) (A + 1)) 48 57 = 0 then some (A + 1) else none) else some A) = some q → RnV (ev (d + 4) 34 157 [(0, .ref 50), (1, .int (nI c)), (2, .int x2), (3, .int x3), (4, .int x4)] [.ref 50, .int (nI (3 * c + 1)), .ref 56] (mkH s)) (fun τ => Ag [3214, 3215, 10056] s τ ∧ sI τ 3215 = nI q ∧ ∃ b, RD τ T n m b)) ∧
    ((if heF T (min n m) A = 43 ∨ heF T (min n m) A = 45 then (if inF (heF T (min n m) (A + 1)) 48 57 = 0 then some (A + 1) else none) else some A) = none → RnV (ev (d + 4) 34 157 [(0, .ref 50), (1, .int (nI c)), (2, .int x2), (3, .int x3), (4, .int x4)] [.ref 50, .int (nI (3 * c + 1)), .ref 56] (mkH s)) (fun τ => Ag [3214, 10056] s τ ∧ RD τ T n m (A + 2) ∧ sA τ 56 = upd (upd (sA s 56) (3 * c + 1) (if heF T (min n m) A = 45 then 1 else 0)) (3 * c + 2) (heF T (min n m) (A + 1) - 48))) := by
  have e2 : (3 : Int32) * nI c + 2 = nI (3 * c + 2) := by
    rw [show (3 : Int32) * nI c = nI (3 * c) from (Int32.ofNat_mul 3 c).symm]; exact nI_add (3 * c) 2
  have e9 : (48 : Int32) + 10 - 1 = 57 := by decide
  have ew : ev (d + 4) 34 157 [(0, .ref 50), (1, .int (nI c)), (2, .int x2), (3, .int x3), (4, .int x4)] [.ref 50, .int (nI (3 * c + 1)), .ref 56] (mkH s) = ev (d + 4) 34 172 [(0, .ref 50), (1, .int (nI c)), (2, .int x2), (3, .int x3), (4, .int x4)] [.ref 50] (mkH (uA s 56 (3 * c + 1) (if heF T (min n m) A = 45 then 1 else 0))) := by
    rw [c_Model_readBarge_157 (N_here (d := d + 2) h), g_Model_readBarge_160, ixn (k := 3 * c + 1) (by omega) (by decide), cond_true, cond_true, cln (n := 3 * c + 1) (by omega)]
    split <;> rfl
  rw [ew]
  have a0 : Ag [10056] s (uA s 56 (3 * c + 1) (if heF T (min n m) A = 45 then 1 else 0)) := Ag.A Ag.rf rfl
  have h1 := h.ag a0 rfl
  have w1 : sI (uA s 56 (3 * c + 1) (if heF T (min n m) A = 45 then 1 else 0)) 3215 = -1 := hw
  have q56 : sA (uA s 56 (3 * c + 1) (if heF T (min n m) A = 45 then 1 else 0)) 56 = upd (sA s 56) (3 * c + 1) (if heF T (min n m) A = 45 then 1 else 0) := rfl
  generalize uA s 56 (3 * c + 1) (if heF T (min n m) A = 45 then 1 else 0) = s1 at a0 h1 w1 q56
  rw [c_Model_readBarge_172 (N_fine1 (d := d + 2) w1), g_Model_readBarge_175, if_neg (show ¬ (1 : Int32) = 0 by decide), c_Model_readBarge_179 (N_here (d := d + 2) h1), g_Model_readBarge_182, h1.2.2.1, nI_1, e2]
  have h2 : RD (uI s1 3214 (nI (A + 1))) T n m (A + 1) := h1.nx (by omega) rfl
  have w2 : sI (uI s1 3214 (nI (A + 1))) 3215 = -1 := w1
  have o1 := N_one1 (d := d) (x := 48) (y := 10) h2 w2 (fun q hq => in_j hq (a := 48) (b := 57) rfl (by decide) (by decide) (by decide))
  rw [e9] at o1
  have a2 : Ag [3214, 10056] s (uI s1 3214 (nI (A + 1))) := (a0.wk rfl).tr (Ag.I Ag.rf rfl)
  have good : (inF (heF T (min n m) (A + 1)) 48 57 = 0 → RnV (ev (d + 4) 34 228 [(0, .ref 50), (1, .int (nI c)), (2, .int x2), (3, .int x3), (4, .int x4)] [.int 10, .int 48, .ref 50, .int (nI (3 * c + 2)), .ref 56] (mkH (uI s1 3214 (nI (A + 1))))) (fun τ => Ag [3214, 3215, 10056] s τ ∧ sI τ 3215 = nI (A + 1) ∧ ∃ b, RD τ T n m b)) ∧ (¬ inF (heF T (min n m) (A + 1)) 48 57 = 0 → RnV (ev (d + 4) 34 228 [(0, .ref 50), (1, .int (nI c)), (2, .int x2), (3, .int x3), (4, .int x4)] [.int 10, .int 48, .ref 50, .int (nI (3 * c + 2)), .ref 56] (mkH (uI s1 3214 (nI (A + 1))))) (fun τ => Ag [3214, 10056] s τ ∧ RD τ T n m (A + 2) ∧ sA τ 56 = upd (upd (sA s 56) (3 * c + 1) (if heF T (min n m) A = 45 then 1 else 0)) (3 * c + 2) (heF T (min n m) (A + 1) - 48))) := by
    refine ⟨fun hq => ?_, fun hq => ?_⟩
    · rw [if_pos hq] at o1
      rw [c_Model_readBarge_228 o1, g_Model_readBarge_231, ixn (k := 3 * c + 2) (by omega) (by decide), cond_true, cln (n := 3 * c + 2) (by omega)]
      have a3 : Ag [3215, 10056] (uI s1 3214 (nI (A + 1))) (uA (uI (uI s1 3214 (nI (A + 1))) 3215 (nI (A + 1))) 56 (3 * c + 2) 0) := Ag.A (Ag.I Ag.rf rfl) rfl
      exact RnV.mk ⟨(a2.wk rfl).tr (a3.wk rfl), rfl, _, h2.ag a3 rfl⟩
    · rw [if_neg hq] at o1
      rw [c_Model_readBarge_228 o1, g_Model_readBarge_231, ixn (k := 3 * c + 2) (by omega) (by decide), cond_true, cln (n := 3 * c + 2) (by omega)]
      have h3 : RD (uI (uI s1 3214 (nI (A + 1))) 3214 (nI (A + 1 + 1))) T n m (A + 2) := h2.nx (by omega) rfl
      have a3 : Ag [10056] (uI (uI s1 3214 (nI (A + 1))) 3214 (nI (A + 1 + 1))) (uA (uI (uI s1 3214 (nI (A + 1))) 3214 (nI (A + 1 + 1))) 56 (3 * c + 2) (heF T (min n m) (A + 1) - 48)) := Ag.A Ag.rf rfl
      refine RnV.mk ⟨a2.tr (Ag.A (Ag.I Ag.rf rfl) rfl), h3.ag a3 rfl, ?_⟩
      show upd (sA s1 56) (3 * c + 2) _ = _
      rw [q56]
  by_cases s1' : heF T (min n m) A = 43
  · rw [if_pos s1', if_pos (Or.inl s1')]
    by_cases hq : inF (heF T (min n m) (A + 1)) 48 57 = 0
    · rw [if_pos hq]
      exact ⟨fun q h => Option.some.inj h ▸ good.1 hq, fun h => (by cases h)⟩
    · rw [if_neg hq]
      exact ⟨fun q h => (by cases h), fun _ => good.2 hq⟩
  · rw [if_neg s1', c_Model_readBarge_188 (N_here (d := d + 2) h1), g_Model_readBarge_191, h1.2.2.1, nI_1, e2]
    by_cases s2 : heF T (min n m) A = 45
    · rw [if_pos s2, if_pos (Or.inr s2)]
      by_cases hq : inF (heF T (min n m) (A + 1)) 48 57 = 0
      · rw [if_pos hq]
        exact ⟨fun q h => Option.some.inj h ▸ good.1 hq, fun h => (by cases h)⟩
      · rw [if_neg hq]
        exact ⟨fun q h => (by cases h), fun _ => good.2 hq⟩
    · rw [if_neg s2, if_neg (fun z => z.elim s1' s2)]
      refine ⟨fun q hq => ?_, fun hq => by cases hq⟩
      have hq : A = q := Option.some.inj hq
      subst hq
      have a4 : Ag [3215] s1 (uI s1 3215 (nI A)) := Ag.I Ag.rf rfl
      have h4 := h1.ag a4 rfl
      have h5 : RD (uI (uI s1 3215 (nI A)) 3214 (nI (A + 1))) T n m (A + 1) := h4.nx (by omega) rfl
      have w5 : ¬ sI (uI (uI s1 3215 (nI A)) 3214 (nI (A + 1))) 3215 = -1 := by
        show ¬ nI A = -1
        exact nI_nm1 (by omega)
      rw [c_Model_readBarge_201 (N_fault1 (d := d + 1) w1), g_Model_readBarge_204, show sI (uI s1 3215 (nI A)) 3214 = nI A from h1.2.2.1, nI_1, e2, c_Model_readBarge_228 (N_one0 (d := d) h5 w5), g_Model_readBarge_231, ixn (k := 3 * c + 2) (by omega) (by decide), cond_true, cln (n := 3 * c + 2) (by omega)]
      have a5 : Ag [10056] (uI (uI s1 3215 (nI A)) 3214 (nI (A + 1))) (uA (uI (uI s1 3215 (nI A)) 3214 (nI (A + 1))) 56 (3 * c + 2) 0) := Ag.A Ag.rf rfl
      exact RnV.mk ⟨(a0.wk rfl).tr (Ag.A (Ag.I (Ag.I Ag.rf rfl) rfl) rfl), rfl, _, h5.ag a5 rfl⟩
theorem all_fr {P : Nat → Bool} : ∀ k, allF P (k + 1) = (P 0 && allF (fun j => P (j + 1)) k)
  | 0 => by show (true && P 0) = (P 0 && true); rw [Bool.true_and, Bool.and_true]
  | k + 1 => by
    show (allF P (k + 1) && P (k + 1)) = (P 0 && (allF (fun j => P (j + 1)) k && P (k + 1)))
    rw [all_fr k, Bool.and_assoc]
theorem all_add {P : Nat → Bool} (i : Nat) : ∀ k, allF P (i + k) = (allF P i && allF (fun j => P (i + j)) k)
  | 0 => by show allF P i = (allF P i && true); rw [Bool.and_true]
  | k + 1 => by
    show (allF P (i + k) && P (i + k)) = (allF P i && (allF (fun j => P (i + j)) k && P (i + k)))
    rw [all_add i k, Bool.and_assoc]
theorem fnd_all {P : Nat → Bool} : ∀ m k, k + m < 2147483648 → (fndF P m k == -1) = allF (fun j => !P (k + j)) m
  | 0, _, _ => by show ((-1 : Int32) == -1) = true; decide
  | m + 1, k, h => by
    rw [all_fr]
    show ((bif P k then nI k else fndF P m (k + 1)) == -1) = (!P (k + 0) && allF (fun j => !P (k + (j + 1))) m)
    rw [Nat.add_zero]
    cases hp : P k with
    | true => rw [cond_true, Bool.not_true, Bool.false_and]; exact beq_f (nI_nm1 (by omega))
    | false =>
      rw [cond_false, Bool.not_false, Bool.true_and, fnd_all m (k + 1) (by omega)]
      exact all_congr m (fun j _ => by rw [show k + 1 + j = k + (j + 1) by omega])
theorem fr_eq {p : Nat} (hW : WO W) (h1 : ∀ i, i < wb W → r i = f i) (hc : c ≤ 9) : (decide (p < wc W) && (!(decide (0 < wK W p)) && (onF W f (nI p) == -1)) && allF (fun j => !(r (wb W + j) == nI p)) c) = frB W r (wb W + c) p := by
  have w4 := hW.1
  unfold frB onF
  rw [fnd_all (P := fun i => r i == nI p) (wb W + c) 0 (by omega), fnd_all (P := fun b => f b == nI p) (wb W) 0 (by omega), all_add, Bool.and_assoc, Bool.and_assoc]
  congr 1
  congr 1
  congr 1
  · exact all_congr _ (fun i hi => by rw [Nat.zero_add, h1 i hi])
  · exact all_congr _ (fun i hi => by rw [Nat.zero_add])
/-- the place that a line begins with, by the reference -/
theorem M_place (h : RD σ T n m a) (hw : sI σ 3215 = -1) (ha : a ≤ 900) (h0 : ¬ inF (heF T (min n m) a) 48 57 = 0) : ∃ s, Ag [3214] σ s ∧ RD s T n m (a + plN T (min n m) a) ∧ plV T (min n m) a ≤ 99 ∧ ev (d + 4) 34 0 [(0, .ref 50), (1, .int x)] [] (mkH σ) = ev (d + 4) 34 38 [(0, .ref 50), (1, .int x), (2, .int (nI (plV T (min n m) a)))] [.ref 50] (mkH s) := by
  have e9 : (48 : Int32) + 10 - 1 = 57 := by decide
  have o1 := N_one1 (d := d) (x := 48) (y := 10) h hw (fun q hq => in_j hq (a := 48) (b := 57) rfl (by decide) (by decide) (by decide))
  rw [e9, if_neg h0] at o1
  obtain ⟨j, j1, j2, j3⟩ := dg_n h0
  rw [j2] at o1
  have h1 : RD (uI σ 3214 (nI (a + 1))) T n m (a + 1) := h.nx (by omega) rfl
  have a1 : Ag [3214] σ (uI σ 3214 (nI (a + 1))) := Ag.I Ag.rf rfl
  have w1 : sI (uI σ 3214 (nI (a + 1))) 3215 = -1 := hw
  rw [g_Model_readBarge_0, c_Model_readBarge_5 o1, g_Model_readBarge_8]
  generalize uI σ 3214 (nI (a + 1)) = s1 at h1 a1 w1
  rw [c_Model_readBarge_10 (N_here (d := d + 2) h1), g_Model_readBarge_13, c_Model_readBarge_17 (N_inF (d := d + 2)), g_Model_readBarge_20]
  by_cases c1 : inF (heF T (min n m) (a + 1)) 48 57 = 0
  · have e1 : plN T (min n m) a = 1 := if_pos c1
    have e2 : plV T (min n m) a = j := by unfold plV; rw [if_pos c1, j2, cln (n := j) (by omega)]
    refine ⟨s1, a1, by rw [e1]; exact h1, by omega, ?_⟩
    rw [if_pos c1, e2]
  · obtain ⟨i, i1, i2, i3⟩ := dg_n c1
    have e1 : plN T (min n m) a = 2 := if_neg c1
    have e2 : plV T (min n m) a = 10 * j + i := by unfold plV; rw [if_neg c1, j2, i2, cln (n := j) (by omega), cln (n := i) (by omega)]
    have o2 := N_one1 (d := d) (x := 48) (y := 10) h1 w1 (fun q hq => in_j hq (a := 48) (b := 57) rfl (by decide) (by decide) (by decide))
    rw [e9, if_neg c1, i2] at o2
    refine ⟨uI s1 3214 (nI (a + 1 + 1)), a1.tr (Ag.I Ag.rf rfl), by rw [e1]; exact h1.nx (by omega) rfl, by omega, ?_⟩
    rw [if_neg c1, c_Model_readBarge_32 o2, g_Model_readBarge_35, e2, show (10 : Int32) * nI j = nI (10 * j) from (Int32.ofNat_mul 10 j).symm, nI_add]
theorem M_line (h : RD σ T n m a) (hw : sI σ 3215 = -1) (hW : WO W) (hm : MW W σ) (hf : Lv W (sA σ 51) f) (h1 : ∀ i, i < wb W → r i = f i) (h2 : ∀ i, i < c → sA σ 56 (3 * i) = r (wb W + i)) (hc : c ≤ 9) (ha : a ≤ 900) :
    (∀ q, bfF T (min n m) W r (wb W + c) a = some q → RnV (ev (d + 4) 34 0 [(0, .ref 50), (1, .int (nI c))] [] (mkH σ)) (fun τ => Ag [3214, 3215, 10056] σ τ ∧ sI τ 3215 = nI q ∧ ∃ b, RD τ T n m b)) ∧
    (bfF T (min n m) W r (wb W + c) a = none → RnV (ev (d + 4) 34 0 [(0, .ref 50), (1, .int (nI c))] [] (mkH σ)) (fun τ => Ag [3214, 10056] σ τ ∧ RD τ T n m (a + plN T (min n m) a + 2) ∧ sA τ 56 = upd (upd (upd (sA σ 56) (3 * c) (nI (plV T (min n m) a))) (3 * c + 1) (if heF T (min n m) (a + plN T (min n m) a) = 45 then 1 else 0)) (3 * c + 2) (heF T (min n m) (a + plN T (min n m) a + 1) - 48))) := by
  have e9 : (48 : Int32) + 10 - 1 = 57 := by decide
  have e3 : (3 : Int32) * nI c = nI (3 * c) := (Int32.ofNat_mul 3 c).symm
  have e31 : nI (3 * c) + (1 : Int32) = nI (3 * c + 1) := nI_add (3 * c) 1
  unfold bfF
  by_cases h0 : inF (heF T (min n m) a) 48 57 = 0
  · rw [if_pos h0]
    refine ⟨fun q hq => ?_, fun hq => by cases hq⟩
    have hq : a = q := Option.some.inj hq
    subst hq
    have o1 := N_one1 (d := d) (x := 48) (y := 10) h hw (fun q hq => in_j hq (a := 48) (b := 57) rfl (by decide) (by decide) (by decide))
    rw [e9, if_pos h0] at o1
    have a1 : Ag [3215] σ (uI σ 3215 (nI a)) := Ag.I Ag.rf rfl
    have k1 := h.ag a1 rfl
    have w1 : sI (uI σ 3215 (nI a)) 3215 = nI a := rfl
    have k2 : ∀ i, i < c → sA (uI σ 3215 (nI a)) 56 (3 * i) = r (wb W + i) := h2
    rw [g_Model_readBarge_0, c_Model_readBarge_5 o1, g_Model_readBarge_8]
    generalize uI σ 3215 (nI a) = s1 at a1 k1 w1 k2
    have nw : ¬ sI s1 3215 = -1 := by rw [w1]; exact nI_nm1 (by omega)
    have lp := fr_loop (d := d + 3) (s := s1) (p := 0) (r := fun i => r (wb W + i)) hc k2 c 0 false (by omega)
    rw [Bool.false_and] at lp
    rw [c_Model_readBarge_10 (N_here (d := d + 2) k1), g_Model_readBarge_13, c_Model_readBarge_17 (N_inF (d := d + 2)), g_Model_readBarge_20, if_pos h0, c_Model_readBarge_38 (N_fine0 (d := d + 2) nw), g_Model_readBarge_41, if_pos rfl]
    rw [show ev (d + 4) 34 82 [(0, .ref 50), (1, .int (nI c)), (2, .int 0), (3, .int 0), (4, .int 0)] [] (mkH s1) = _ from lp, c_Model_readBarge_118 (N_fine0 (d := d + 2) nw), g_Model_readBarge_121, if_pos rfl, e3, ixn (k := 3 * c) (by omega) (by decide), cond_true, cln (n := 3 * c) (by omega), e31]
    have a2 : Ag [10056] s1 (uA s1 56 (3 * c) 0) := Ag.A Ag.rf rfl
    refine (M_bt0 (d := d) (s := uA s1 56 (3 * c) 0) hc (b := a) (by omega) (k1.ag a2 rfl) nw).im (fun τ ⟨t1, t2⟩ => ?_)
    exact ⟨(a1.wk rfl).tr ((a2.wk rfl).tr (t1.wk rfl)), (t1.1 3215 rfl).trans w1, _, t2⟩
  · rw [if_neg h0]
    obtain ⟨s, g1, g2, g3, g4⟩ := M_place (d := d) (x := nI c) h hw ha h0
    rw [g4]
    have w30 := hW.2.2.2.1
    have ws : sI s 3215 = -1 := (g1.1 3215 rfl).trans hw
    have ms := hm.ag g1 rfl
    have fs : Lv W (sA s 51) f := by rw [g1.2.1 51 rfl]; exact hf
    have ks : ∀ i, i < c → sA s 56 (3 * i) = r (wb W + i) := fun i hi => by rw [g1.2.1 56 rfl]; exact h2 i hi
    have r56 : sA s 56 = sA σ 56 := g1.2.1 56 rfl
    have n12 : plN T (min n m) a = 1 ∨ plN T (min n m) a = 2 := by unfold plN; split; exact Or.inl rfl; exact Or.inr rfl
    have fe := fr_eq (p := plV T (min n m) a) hW h1 hc
    generalize plV T (min n m) a = p at g3 g4 fe ⊢
    have lp := fun u => fr_loop (d := d + 3) (s := s) (p := nI p) (r := fun i => r (wb W + i)) hc ks c 0 u (by omega)
    have mid : ev (d + 4) 34 38 [(0, .ref 50), (1, .int (nI c)), (2, .int (nI p))] [.ref 50] (mkH s) = ev (d + 4) 34 118 [(0, .ref 50), (1, .int (nI c)), (2, .int (nI p)), (3, .int (bif frB W r (wb W + c) p then 1 else 0)), (4, .int (nI c))] [.ref 50] (mkH s) := by
      rw [← fe]
      have alz : allF (fun j => !(r (wb W + (0 + j)) == nI p)) c = allF (fun j => !(r (wb W + j) == nI p)) c := all_congr _ (fun i _ => by rw [Nat.zero_add])
      rw [← alz]
      rw [c_Model_readBarge_38 (N_fine1 (d := d + 2) ws), g_Model_readBarge_41, if_neg (show ¬ (1 : Int32) = 0 by decide), ms.2.2.1]
      by_cases hp : p < wc W
      · rw [if_neg (nI_ge hp (by omega)), c_Model_readBarge_54 (N_lock (d := d + 2) hW ms (ixn hp (by omega))), g_Model_readBarge_57, cln (n := p) (by omega), decide_eq_true hp, Bool.true_and]
        by_cases hk : 0 < wK W p
        · rw [if_pos hk, if_neg (show ¬ (1 : Int32) = 0 by decide), decide_eq_true hk]
          exact lp false
        · rw [if_neg hk, if_pos rfl, decide_eq_false hk, c_Model_readBarge_66 (N_on (d := d + 2) (v := false) hW ms fs), g_Model_readBarge_69, m1]
          by_cases z : onF W f (nI p) = -1
          · rw [if_pos z, beq_t z]; exact lp true
          · rw [if_neg z, beq_f z]; exact lp false
      · rw [if_pos (nI_le (by omega) (by omega)), decide_eq_false hp]
        exact lp false
    rw [mid, c_Model_readBarge_118 (N_fine1 (d := d + 2) ws), g_Model_readBarge_121, if_neg (show ¬ (1 : Int32) = 0 by decide), e3, ixn (k := 3 * c) (by omega) (by decide), cond_true, cln (n := 3 * c) (by omega), e31]
    clear mid lp fe
    cases frB W r (wb W + c) p with
    | true =>
      rw [cond_true, cond_true, if_neg (show ¬ (1 : Int32) = 0 by decide)]
      have a2 : Ag [10056] s (uA s 56 (3 * c) (nI p)) := Ag.A Ag.rf rfl
      have k56 : sA (uA s 56 (3 * c) (nI p)) 56 = upd (sA σ 56) (3 * c) (nI p) := by show upd (sA s 56) _ _ = _; rw [r56]
      have b1 := M_bt1 (d := d) (s := uA s 56 (3 * c) (nI p)) (x2 := nI p) (x3 := 1) (x4 := nI c) hc (A := a + plN T (min n m) a) (by omega) (g2.ag a2 rfl) ws
      rw [k56] at b1
      generalize uA s 56 (3 * c) (nI p) = s2 at a2 b1
      refine ⟨fun q hq => (b1.1 q hq).im (fun τ ⟨t1, t2, t3⟩ => ⟨(g1.wk rfl).tr ((a2.wk rfl).tr t1), t2, t3⟩), fun hq => (b1.2 hq).im (fun τ ⟨t1, t2, t3⟩ => ⟨(g1.wk rfl).tr ((a2.wk rfl).tr t1), t2, t3⟩)⟩
    | false =>
      rw [cond_false, cond_false, if_pos rfl]
      refine ⟨fun q hq => ?_, fun hq => by cases hq⟩
      have hq : a + plN T (min n m) a - 1 = q := Option.some.inj hq
      subst hq
      have es : nI (a + plN T (min n m) a) - 1 = nI (a + plN T (min n m) a - 1) := nI_sub (a := a + plN T (min n m) a) (b := 1) (by omega)
      have a1 : Ag [3215] s (uI s 3215 (nI (a + plN T (min n m) a - 1))) := Ag.I Ag.rf rfl
      have a2 : Ag [10056] (uI s 3215 (nI (a + plN T (min n m) a - 1))) (uA (uI s 3215 (nI (a + plN T (min n m) a - 1))) 56 (3 * c) (nI p)) := Ag.A Ag.rf rfl
      rw [g2.2.2.1, es, c_Model_readBarge_135 (N_fault1 (d := d + 1) ws), g_Model_readBarge_138, e3, ixn (k := 3 * c) (by omega) (by decide), cond_true, cln (n := 3 * c) (by omega), e31]
      have k2 := (g2.ag a1 rfl).ag a2 rfl
      have w2 : sI (uA (uI s 3215 (nI (a + plN T (min n m) a - 1))) 56 (3 * c) (nI p)) 3215 = nI (a + plN T (min n m) a - 1) := rfl
      generalize uA (uI s 3215 (nI (a + plN T (min n m) a - 1))) 56 (3 * c) (nI p) = s2 at a2 k2 w2
      refine (M_bt0 (d := d) (s := s2) (x2 := nI p) (x3 := 0) (x4 := nI c) hc (b := a + plN T (min n m) a) (by omega) k2 (by rw [w2]; exact nI_nm1 (by omega))).im (fun τ ⟨t1, t2⟩ => ?_)
      exact ⟨(g1.wk rfl).tr ((a1.wk rfl).tr ((a2.wk rfl).tr (t1.wk rfl))), (t1.1 3215 rfl).trans w2, _, t2⟩
end BT3
