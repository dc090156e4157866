/-! barges: a line, by the reference -/
section BT3
variable {d n m a b c e : Nat} {σ τ : Sg} {T r : Nat → Int32} {W : Wd} {f : Nat → Int32} {x y : Int32}
theorem fr_loop {s : Sg} {p : Int32} (hc : c ≤ 9) (he : ∀ i, i < c → sA s 56 (3 * i) = r i) : ∀ (k i : Nat) (u : Bool), i + k = c → ev (d + 1) 34 82 [(0, .ref 50), (1, .int (nI c)), (2, .int p), (3, .int (bif u then 1 else 0)), (4, .int (nI i))] [] (mkH s) = ev (d + 1) 34 118 [(0, .ref 50), (1, .int (nI c)), (2, .int p), (3, .int (bif u && allF (fun j => !(r (i + j) == p)) k then 1 else 0)), (4, .int (nI c))] [.ref 50] (mkH s) := by
  intro k
  induction k with
  | zero =>
    intro i u hi
    have : i = c := by omega
    subst this
    rw [g_Model_readBarge_82, if_pos (nI_le (Nat.le_refl _) (by omega))]
    show _ = ev (d + 1) 34 118 [(0, .ref 50), (1, .int (nI i)), (2, .int p), (3, .int (bif u && true then 1 else 0)), (4, .int (nI i))] [.ref 50] (mkH s)
    rw [Bool.and_true]
  | succ k ih =>
    intro i u hi
    have al : allF (fun j => !(r (i + j) == p)) (k + 1) = (!(r i == p) && allF (fun j => !(r (i + 1 + j) == p)) k) := by
      have key : ∀ k, allF (fun j => !(r (i + j) == p)) (k + 1) = (!(r i == p) && allF (fun j => !(r (i + 1 + j) == p)) k) := by
        intro k
        induction k with
        | zero => show (true && !(r (i + 0) == p)) = (!(r i == p) && true); rw [Bool.true_and, Bool.and_true]; rfl
        | succ k ihk =>
          show (allF (fun j => !(r (i + j) == p)) (k + 1) && !(r (i + (k + 1)) == p)) = (!(r i == p) && (allF (fun j => !(r (i + 1 + j) == p)) k && !(r (i + 1 + k) == p)))
          rw [ihk, Bool.and_assoc, show i + (k + 1) = i + 1 + k by omega]
      exact key k
    rw [g_Model_readBarge_82, if_neg (nI_ge (by omega) (by omega)), nI_1, al]
    cases u with
    | false =>
      rw [cond_false, if_pos rfl]
      have := ih (i + 1) false (by omega)
      rw [Bool.false_and] at this ⊢
      exact this
    | true =>
      rw [cond_true, if_neg (by decide), show (3 : Int32) * nI i = nI (3 * i) from (Int32.ofNat_mul 3 i).symm, ixn (k := 3 * i) (by omega) (by decide), cond_true, cln (n := 3 * i) (by omega), he i (by omega), Bool.true_and]
      by_cases z : r i = p
      · rw [if_pos z, beq_t z]
        have := ih (i + 1) false (by omega)
        rw [Bool.false_and] at this
        exact this
      · rw [if_neg z, beq_f z]
        have := ih (i + 1) true (by omega)
        rw [Bool.true_and] at this
        exact this
/-- what is wrong stays wrong -/
theorem M_bt0 {s : Sg} {b : Nat} {x2 x3 x4 : Int32} (hc : c ≤ 9) (hb : b ≤ 1000) (h : RD s T n m b) (hw : ¬ sI s 3215 = -1) : RnV (ev (d + 4) 34 157 [(0, .ref 50), (1, .int (nI c)), (2, .int x2), (3, .int x3), (4, .int x4)] [.ref 50, .int (nI (3 * c + 1)), .ref 56] (mkH s)) (fun τ => Ag [3214, 10056] s τ ∧ RD τ T n m (b + 1)) := by
  have e2 : (3 : Int32) * nI c + 2 = nI (3 * c + 2) := by
    rw [show (3 : Int32) * nI c = nI (3 * c) from (Int32.ofNat_mul 3 c).symm]; exact nI_add (3 * c) 2
  rw [c_Model_readBarge_157 (N_here (d := d + 2) h), g_Model_readBarge_160, ixn (k := 3 * c + 1) (by omega) (by decide), cond_true, cond_true, cln (n := 3 * c + 1) (by omega)]
  have key : ∀ v : Int32, RnV (ev (d + 4) 34 172 [(0, .ref 50), (1, .int (nI c)), (2, .int x2), (3, .int x3), (4, .int x4)] [.ref 50] (mkH (uA s 56 (3 * c + 1) v))) (fun τ => Ag [3214, 10056] s τ ∧ RD τ T n m (b + 1)) := fun v => by
    have a1 : Ag [3214, 10056] s (uA s 56 (3 * c + 1) v) := Ag.A Ag.rf rfl
    have a0 : Ag [10056] s (uA s 56 (3 * c + 1) v) := Ag.A Ag.rf rfl
    have h1 := h.ag a0 rfl
    have w1 : ¬ sI (uA s 56 (3 * c + 1) v) 3215 = -1 := hw
    generalize uA s 56 (3 * c + 1) v = s1 at a1 a0 h1 w1
    have h2 : RD (uI s1 3214 (nI (b + 1))) T n m (b + 1) := h1.nx (by omega) rfl
    have w2 : ¬ sI (uI s1 3214 (nI (b + 1))) 3215 = -1 := w1
    have a2 : Ag [10056] (uI s1 3214 (nI (b + 1))) (uA (uI s1 3214 (nI (b + 1))) 56 (3 * c + 2) 0) := Ag.A Ag.rf rfl
    rw [c_Model_readBarge_172 (N_fine0 (d := d + 2) w1), g_Model_readBarge_175, if_pos rfl, h1.2.2.1, nI_1, e2, c_Model_readBarge_228 (N_one0 (d := d) h2 w2), g_Model_readBarge_231, ixn (k := 3 * c + 2) (by omega) (by decide), cond_true, cln (n := 3 * c + 2) (by omega)]
    exact RnV.mk ⟨a1.tr (Ag.A (Ag.I Ag.rf rfl) rfl), h2.ag a2 rfl⟩
  split
  · exact key 1
  · exact key 0
end BT3
