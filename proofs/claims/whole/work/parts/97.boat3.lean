/-! barges: a line, by the reference -/
section BT3
variable {d n m a b c e : Nat} {σ τ : Sg} {T r : Nat → Int32} {W : Wd} {f : Nat → Int32} {x y : Int32}
theorem fr_loop {s : Sg} {p : Int32} (hc : c ≤ 9) (he : ∀ i, i < c → sA s 56 (3 * i) = r i) : ∀ (k i : Nat) (u : Bool), i + k = c → ev (d + 1) 34 82 [(0, .ref 50), (1, .int (nI c)), (2, .int p), (3, .int (bif u then 1 else 0)), (4, .int (nI i))] [] (mkH s) = ev (d + 1) 34 118 [(0, .ref 50), (1, .int (nI c)), (2, .int p), (3, .int (bif u && allF (fun j => !(r (i + j) == p)) k then 1 else 0)), (4, .int (nI c))] [.ref 50] (mkH s) := by
  intro k
  induction k with
  | zero =>
    intro i u hi
    have : i = c := by omega
    subst this
    rw [g_Model_readBarge_82, if_pos (nI_le (Nat.le_refl _) (by omega))]
    show _ = ev (d + 1) 34 118 [(0, .ref 50), (1, .int (nI i)), (2, .int p), (3, .int (bif u && true then 1 else 0)), (4, .int (nI i))] [.ref 50] (mkH s)
    rw [Bool.and_true]
  | succ k ih =>
    intro i u hi
    have al : allF (fun j => !(r (i + j) == p)) (k + 1) = (!(r i == p) && allF (fun j => !(r (i + 1 + j) == p)) k) := by
      have key : ∀ k, allF (fun j => !(r (i + j) == p)) (k + 1) = (!(r i == p) && allF (fun j => !(r (i + 1 + j) == p)) k) := by
        intro k
        induction k with
        | zero => show (true && !(r (i + 0) == p)) = (!(r i == p) && true); rw [Bool.true_and, Bool.and_true]; rfl
        | succ k ihk =>
          show (allF (fun j => !(r (i + j) == p)) (k + 1) && !(r (i + (k + 1)) == p)) = (!(r i == p) && (allF (fun j => !(r (i + 1 + j) == p)) k && !(r (i + 1 + k) == p)))
          rw [ihk, Bool.and_assoc, show i + (k + 1) = i + 1 + k by omega]
      exact key k
    rw [g_Model_readBarge_82, if_neg (nI_ge (by omega) (by omega)), nI_1, al]
    cases u with
    | false =>
      rw [cond_false, if_pos rfl]
      have := ih (i + 1) false (by omega)
      rw [Bool.false_and] at this ⊢
      exact this
    | true =>
      rw [cond_true, if_neg (by decide), show (3 : Int32) * nI i = nI (3 * i) from (Int32.ofNat_mul 3 i).symm, ixn (k := 3 * i) (by omega) (by decide), cond_true, cln (n := 3 * i) (by omega), he i (by omega), Bool.true_and]
      by_cases z : r i = p
      · rw [if_pos z, beq_t z]
        have := ih (i + 1) false (by omega)
        rw [Bool.false_and] at this
        exact this
      · rw [if_neg z, beq_f z]
        have := ih (i + 1) true (by omega)
        rw [Bool.true_and] at this
        exact this
end BT3
