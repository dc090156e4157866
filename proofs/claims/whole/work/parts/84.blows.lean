/-! blows -/
section BL
variable {d m x k : Nat} {σ τ : Sg} {W : Wd} {f g : Nat → Int32} {K : List Nat}
def gfL (x0 : Int32) : Nat → Int32 → Int32 → Int32
  | 0, _, b => b
  | k + 1, a, b => if x0 < a + b then b else gfL x0 k b (a + b)
theorem C_gf {x0 : Int32} : ev (d + 1) 169 0 [(0, .int x0)] [] (mkH σ) = rI σ (gfL x0 20 1 1) := by
  have key : ∀ k a b, k ≤ 20 → ev (d + 1) 169 6 [(0, .int x0), (1, .int a), (2, .int b), (3, .int (nI (20 - k)))] [] (mkH σ) = rI σ (gfL x0 k a b) := by
    intro k
    induction k with
    | zero => intro a b _; rw [g_Games_greatestFibonacci_6, if_pos (by decide)]; rfl
    | succ k ih =>
      intro a b hk
      rw [g_Games_greatestFibonacci_6, if_neg (show ¬ (20 : Int32) ≤ nI (20 - (k + 1)) from nI_ge (a := 20 - (k + 1)) (b := 20) (by omega) (by decide)), nI_1, show 20 - (k + 1) + 1 = 20 - k by omega, ih _ _ (by omega)]
      show _ = rI σ (if x0 < a + b then b else gfL x0 k b (a + b))
      split <;> rfl
  rw [g_Games_greatestFibonacci_0]
  exact key 20 1 1 (Nat.le_refl _)
def lwL (x0 : Int32) : Nat → Int32 → Int32 → Int32
  | 0, _, p => if p = x0 then 0 else p
  | k + 1, l, p => if l ≤ 0 then (if p = x0 then 0 else p) else lwL x0 k (l - gfL l 20 1 1) (gfL l 20 1 1)
theorem C_lw {x0 : Int32} : ev (d + 2) 168 0 [(0, .int x0)] [] (mkH σ) = rI σ (lwL x0 10 x0 0) := by
  have key : ∀ k l p, k ≤ 10 → ev (d + 2) 168 6 [(0, .int x0), (1, .int l), (2, .int p), (3, .int (nI (10 - k)))] [] (mkH σ) = rI σ (lwL x0 k l p) := by
    intro k
    induction k with
    | zero =>
      intro l p _
      rw [g_Games_leastWinningPuff_6, if_pos (by decide)]
      unfold lwL
      split <;> rfl
    | succ k ih =>
      intro l p hk
      rw [g_Games_leastWinningPuff_6, if_neg (show ¬ (10 : Int32) ≤ nI (10 - (k + 1)) from nI_ge (a := 10 - (k + 1)) (b := 10) (by omega) (by decide)), c_Games_leastWinningPuff_17 C_gf, g_Games_leastWinningPuff_20, nI_1, show 10 - (k + 1) + 1 = 10 - k by omega, ih _ _ (by omega)]
      show _ = rI σ (if l ≤ 0 then (if p = x0 then 0 else p) else lwL x0 k (l - gfL l 20 1 1) (gfL l 20 1 1))
      split
      · split <;> rfl
      · rfl
  rw [g_Games_leastWinningPuff_0]
  exact key 10 x0 0 (Nat.le_refl _)
def zkL : List Nat := [0, 1, 2, 3, 1, 5, 1, 2, 8, 1, 2, 3, 1, 13, 1, 2, 3, 1, 5, 1, 2, 21, 1, 2, 3, 1, 5, 1, 2, 8, 1, 2, 3, 1, 34, 1, 2, 3, 1, 5, 1, 2, 8, 1, 2, 3, 1, 13, 1, 2, 3, 1, 5, 1, 2, 55, 1, 2, 3, 1, 5]
def zk (n : Nat) : Nat := zkL.getD n 0
def lwN (n : Nat) : Nat := if zk n = n then 0 else zk n
theorem lw_tab : ∀ n, n < 61 → 2 ≤ n → lwL (nI n) 10 (nI n) 0 = nI (lwN n) := by decide +kernel
/-- is it lost for the one that is to blow -/
def loB (u v : Nat) : Bool := !(u == 0) && !(Nat.ble (zk u) (min v u))
theorem wn_tab : ∀ a, a < 61 → ∀ b, b ≤ a → 1 ≤ b → (Nat.beq a b || anF (fun i => loB (a - (i + 1)) (2 * (i + 1))) b) = Nat.ble (zk a) b := by decide +kernel
theorem fl_tab : ∀ n, n < 61 → 2 ≤ n → (lwN n = 0 ∧ ∀ i, i < n - 1 → loB (n - (i + 1)) (2 * (i + 1)) = false) ∨ (1 ≤ lwN n ∧ lwN n < n ∧ loB (n - lwN n) (2 * lwN n) = true ∧ ∀ i, i < lwN n - 1 → loB (n - (i + 1)) (2 * (i + 1)) = false) := by decide +kernel
theorem an_mono {P : Nat → Bool} {i : Nat} (h : anF P i = true) : ∀ j, anF P (i + j) = true
  | 0 => h
  | j + 1 => by
    show (anF P (i + j) || P (i + j)) = true
    rw [an_mono h j, Bool.true_or]
/-- the table up to a, and in row a up to b -/
def Tb (σ : Sg) (a b : Nat) : Prop := ∀ u v, 1 ≤ v → v ≤ u → (u < a ∨ (u = a ∧ v < b)) → sA σ 70 (61 * u + v) = (bif Nat.ble (zk u) v then 1 else 0)
theorem M_lost {u v a b : Nat} (ht : Tb σ a b) (hu : u < a) (ha : a ≤ 61) (hv : 1 ≤ v) (hv2 : v < 1000) {xu xv : Int32} (eu : xu = nI u) (ev2 : xv = nI v) : ev (d + 1) 107 0 [(0, .ref 50), (1, .int xu), (2, .int xv)] [] (mkH σ) = rI σ (bif loB u v then 1 else 0) := by
  subst eu; subst ev2
  rw [g_Model_isLost_0]
  unfold loB
  rcases Nat.eq_zero_or_pos u with hz | hz
  · subst hz
    rw [if_pos (by decide)]; rfl
  · rw [if_neg (show ¬ nI u ≤ (0 : Int32) from nI_ge (a := 0) (b := u) hz (by omega))]
    have e1 : (if nI v < nI u then nI v else nI u) = nI (min v u) := by
      rcases Nat.lt_or_ge v u with z | z
      · rw [if_pos (nI_lt z (by omega)), Nat.min_eq_left (by omega)]
      · rw [if_neg (nI_nlt z (by omega)), Nat.min_eq_right z]
    have e2 : (61 : Int32) * nI u + nI (min v u) = nI (61 * u + min v u) := by
      rw [show (61 : Int32) * nI u = nI (61 * u) from (Int32.ofNat_mul 61 u).symm, nI_add]
    have hm : min v u ≤ u ∧ 1 ≤ min v u := ⟨Nat.min_le_right v u, by omega⟩
    rw [e1, e2, ixn (k := 61 * u + min v u) (by omega) (by decide), cond_true, cln (n := 61 * u + min v u) (by omega), ht u (min v u) hm.2 hm.1 (Or.inl hu), show (u == 0) = false from beq_false_of_ne (by omega)]
    cases Nat.ble (zk u) (min v u)
    · rw [cond_false, if_pos rfl]; rfl
    · rw [cond_true, if_neg (by decide)]; rfl
theorem M_cell {a b : Nat} (ht : Tb σ a b) (ha : a < 61) (hb : 1 ≤ b) (hb2 : b ≤ a) {xn : Int32} : ev (d + 2) 108 46 [(0, .ref 50), (1, .int xn), (2, .int (nI a)), (3, .int (nI b)), (4, .int (bif Nat.beq a b then 1 else 0)), (5, .int 1)] [] (mkH σ) = ev (d + 2) 108 26 [(0, .ref 50), (1, .int xn), (2, .int (nI a)), (3, .int (nI (b + 1)))] [] (mkH (uA σ 70 (61 * a + b) (bif Nat.ble (zk a) b then 1 else 0))) := by
  have e2 : (61 : Int32) * nI a + nI b = nI (61 * a + b) := by
    rw [show (61 : Int32) * nI a = nI (61 * a) from (Int32.ofNat_mul 61 a).symm, nI_add]
  have key : ∀ j i, i + j = b → ev (d + 2) 108 46 [(0, .ref 50), (1, .int xn), (2, .int (nI a)), (3, .int (nI b)), (4, .int (bif Nat.beq a b || anF (fun i => loB (a - (i + 1)) (2 * (i + 1))) i then 1 else 0)), (5, .int (nI (i + 1)))] [] (mkH σ) = ev (d + 2) 108 26 [(0, .ref 50), (1, .int xn), (2, .int (nI a)), (3, .int (nI (b + 1)))] [] (mkH (uA σ 70 (61 * a + b) (bif Nat.ble (zk a) b then 1 else 0))) := by
    intro j
    induction j with
    | zero =>
      intro i hi
      have : i = b := by omega
      subst this
      rw [g_Model_blows_46, if_pos (nI_lt (by omega) (by omega)), e2, ixn (k := 61 * a + i) (by omega) (by decide), cond_true, cln (n := 61 * a + i) (by omega), nI_1, wn_tab a ha i hb2 hb, nar_b (by cases Nat.ble (zk a) i; exact Or.inl rfl; exact Or.inr rfl)]
    | succ j ih =>
      intro i hi
      rw [g_Model_blows_46, if_neg (nI_nlt (by omega) (by omega))]
      cases hA : Nat.beq a b || anF (fun i => loB (a - (i + 1)) (2 * (i + 1))) i with
      | true =>
        have h2 : (Nat.beq a b || anF (fun i => loB (a - (i + 1)) (2 * (i + 1))) b) = true := by
          rw [Bool.or_eq_true] at hA ⊢
          rcases hA with z | z
          · exact Or.inl z
          · refine Or.inr ?_
            have := an_mono z (j + 1)
            rw [hi] at this; exact this
        rw [wn_tab a ha b hb2 hb] at h2
        rw [cond_true, if_neg (by decide), e2, ixn (k := 61 * a + b) (by omega) (by decide), cond_true, cln (n := 61 * a + b) (by omega), nI_1, nar1, h2, cond_true]
      | false =>
        rw [Bool.or_eq_false_iff] at hA
        have hab : a ≠ b := fun e => by rw [e, Nat.beq_refl] at hA; cases hA.1
        rw [cond_false, if_pos rfl, c_Model_blows_66 (M_lost (u := a - (i + 1)) (v := 2 * (i + 1)) ht (by omega) (by omega) (by omega) (by omega) (xu := nI a - nI (i + 1)) (xv := 2 * nI (i + 1)) (nI_sub (by omega)) (show (2 : Int32) * nI (i + 1) = nI (2 * (i + 1)) from (Int32.ofNat_mul 2 (i + 1)).symm)), g_Model_blows_69, nI_1]
        have := ih (i + 1) (by omega)
        rw [show (Nat.beq a b || anF (fun i => loB (a - (i + 1)) (2 * (i + 1))) (i + 1)) = loB (a - (i + 1)) (2 * (i + 1)) from by
          show (Nat.beq a b || (anF _ i || loB (a - (i + 1)) (2 * (i + 1)))) = _
          rw [hA.1, hA.2]; rfl] at this
        exact this
  have := key b 0 (by omega)
  rw [show anF (fun i => loB (a - (i + 1)) (2 * (i + 1))) 0 = false from rfl, Bool.or_false] at this
  exact this
theorem Tb.cell {a b : Nat} (ht : Tb σ a b) (ha : a < 61) (hb2 : b ≤ a) : Tb (uA σ 70 (61 * a + b) (bif Nat.ble (zk a) b then 1 else 0)) a (b + 1) := by
  intro u v h1 h2 h3
  show upd (sA σ 70) (61 * a + b) _ (61 * u + v) = _
  by_cases e : u = a ∧ v = b
  · rw [e.1, e.2, upS]
  · rw [upN (by omega)]
    exact ht u v h1 h2 (by omega)
theorem M_last {n : Nat} (hn : n < 61) (hn2 : 2 ≤ n) (ht : Tb σ (n + 1) 1) : ev (d + 2) 108 104 [(0, .ref 50), (1, .int (nI n)), (2, .int 1)] [] (mkH σ) = rI σ (nI (lwN n)) := by
  have one : ∀ i, i + 1 < n → ev (d + 2) 108 104 [(0, .ref 50), (1, .int (nI n)), (2, .int (nI (i + 1)))] [] (mkH σ) = bif loB (n - (i + 1)) (2 * (i + 1)) then rI σ (nI (i + 1)) else ev (d + 2) 108 104 [(0, .ref 50), (1, .int (nI n)), (2, .int (nI (i + 1 + 1)))] [] (mkH σ) := by
    intro i hi
    rw [g_Model_blows_104, if_neg (nI_ge (a := i + 1) (b := n) hi (by omega)), c_Model_blows_116 (M_lost (u := n - (i + 1)) (v := 2 * (i + 1)) ht (by omega) (by omega) (by omega) (by omega) (xu := nI n - nI (i + 1)) (xv := 2 * nI (i + 1)) (nI_sub (by omega)) (show (2 : Int32) * nI (i + 1) = nI (2 * (i + 1)) from (Int32.ofNat_mul 2 (i + 1)).symm)), g_Model_blows_119, nI_1]
    cases loB (n - (i + 1)) (2 * (i + 1))
    · rw [cond_false, if_pos rfl]; rfl
    · rw [cond_true, if_neg (by decide)]; rfl
  have go : ∀ T, T < n → (∀ i, i < T → loB (n - (i + 1)) (2 * (i + 1)) = false) → ∀ j i, i + j = T → ev (d + 2) 108 104 [(0, .ref 50), (1, .int (nI n)), (2, .int (nI (i + 1)))] [] (mkH σ) = ev (d + 2) 108 104 [(0, .ref 50), (1, .int (nI n)), (2, .int (nI (T + 1)))] [] (mkH σ) := by
    intro T hT hF j
    induction j with
    | zero => intro i hi; rw [show i = T by omega]
    | succ j ih =>
      intro i hi
      rw [one i (by omega), hF i (by omega), cond_false]
      exact ih (i + 1) (by omega)
  rcases fl_tab n hn hn2 with ⟨f1, f2⟩ | ⟨f1, f2, f3, f4⟩
  · refine (go (n - 1) (by omega) f2 (n - 1) 0 (by omega)).trans ?_
    rw [show n - 1 + 1 = n by omega, g_Model_blows_104, if_pos (nI_le (Nat.le_refl _) (by omega)), f1]
    rfl
  · refine (go (lwN n - 1) (by omega) f4 (lwN n - 1) 0 (by omega)).trans ?_
    have := one (lwN n - 1) (by omega)
    rw [show lwN n - 1 + 1 = lwN n by omega, f3, cond_true] at this
    rw [show lwN n - 1 + 1 = lwN n by omega]
    exact this
theorem M_table {n : Nat} (hn : n < 61) (hn2 : 2 ≤ n) : RnI (ev (d + 2) 108 19 [(0, .ref 50), (1, .int (nI n)), (2, .int 1)] [] (mkH σ)) (fun τ y => Ag [10070] σ τ ∧ y = nI (lwN n)) := by
  refine lpG (α := Sg) (n := n) (P := fun k ρ => Ag [10070] σ ρ ∧ Tb ρ (k + 1) 1)
    (f := fun k ρ => ev (d + 2) 108 19 [(0, .ref 50), (1, .int (nI n)), (2, .int (nI (k + 1)))] [] (mkH ρ)) (Q := fun o => RnI o _) ?_ ?_ n 0 σ (by omega) ⟨Ag.rf, fun u v h1 h2 h3 => by omega⟩
  · rintro k ρ hk ⟨p1, p2⟩ nx
    show RnI (ev (d + 2) 108 19 [(0, .ref 50), (1, .int (nI n)), (2, .int (nI (k + 1)))] [] (mkH ρ)) _
    rw [g_Model_blows_19, if_neg (nI_nlt (by omega) (by omega))]
    refine lpG (α := Sg) (n := k + 1) (P := fun j ρ => Ag [10070] σ ρ ∧ Tb ρ (k + 1) (j + 1))
      (f := fun j ρ => ev (d + 2) 108 26 [(0, .ref 50), (1, .int (nI n)), (2, .int (nI (k + 1))), (3, .int (nI (j + 1)))] [] (mkH ρ)) (Q := fun o => RnI o _) ?_ ?_ (k + 1) 0 ρ (by omega) ⟨p1, p2⟩
    · rintro j ρ hj ⟨q1, q2⟩ nx2
      show RnI (ev (d + 2) 108 26 [(0, .ref 50), (1, .int (nI n)), (2, .int (nI (k + 1))), (3, .int (nI (j + 1)))] [] (mkH ρ)) _
      have hc := M_cell (d := d) (xn := nI n) q2 (by omega) (by omega) (by omega : j + 1 ≤ k + 1)
      rw [g_Model_blows_26, if_neg (nI_nlt (by omega) (by omega))]
      have e : (if nI (j + 1) = nI (k + 1) then ev (d + 2) 108 46 [(0, .ref 50), (1, .int (nI n)), (2, .int (nI (k + 1))), (3, .int (nI (j + 1))), (4, .int 1), (5, .int 1)] [] (mkH ρ) else ev (d + 2) 108 46 [(0, .ref 50), (1, .int (nI n)), (2, .int (nI (k + 1))), (3, .int (nI (j + 1))), (4, .int 0), (5, .int 1)] [] (mkH ρ)) = ev (d + 2) 108 46 [(0, .ref 50), (1, .int (nI n)), (2, .int (nI (k + 1))), (3, .int (nI (j + 1))), (4, .int (bif Nat.beq (k + 1) (j + 1) then 1 else 0)), (5, .int 1)] [] (mkH ρ) := by
        by_cases z : j = k
        · subst z; rw [if_pos rfl, Nat.beq_refl]; rfl
        · rw [if_neg (nI_ne (by omega) (by omega) (by omega)), show Nat.beq (k + 1) (j + 1) = false from by
            cases hq : Nat.beq (k + 1) (j + 1) with
            | false => rfl
            | true => exact absurd (Nat.eq_of_beq_eq_true hq) (by omega)]; rfl
      rw [e, hc]
      exact nx2 _ ⟨Ag.A q1 rfl, q2.cell (by omega) (by omega)⟩
    · rintro ρ ⟨q1, q2⟩
      show RnI (ev (d + 2) 108 26 [(0, .ref 50), (1, .int (nI n)), (2, .int (nI (k + 1))), (3, .int (nI (k + 1 + 1)))] [] (mkH ρ)) _
      rw [g_Model_blows_26, if_pos (nI_lt (by omega) (by omega)), nI_1]
      exact nx ρ ⟨q1, fun u v h1 h2 h3 => q2 u v h1 h2 (by omega)⟩
  · rintro ρ ⟨p1, p2⟩
    show RnI (ev (d + 2) 108 19 [(0, .ref 50), (1, .int (nI n)), (2, .int (nI (n + 1)))] [] (mkH ρ)) _
    rw [g_Model_blows_19, if_pos (nI_lt (by omega) (by omega)), M_last hn hn2 p2]
    exact RnI.mk ⟨p1, rfl⟩
theorem op_blows : Op_blows 400 INV := by
  intro d hd k σ t _ h
  refine q_op (D := 400) (fun W f => if inF t 2 60 = 0 then (-1, none) else (nI (lwN (Int32.toNatClampNeg t)), none)) (fun W f _ _ => by split <;> exact trivial) ?_ ?_ hd h
  · intro d σ W f hd h
    obtain ⟨d, rfl⟩ : ∃ e, d = e + 10 := ⟨d - 10, by omega⟩
    rw [g_Main_blows_0, c_Main_blows_4 K_in, g_Main_blows_7]
    by_cases hin : inF t 2 60 = 0
    · simp only [if_pos hin]
      exact RnI.mk ⟨Ag.rf, rfl, ⟨rfl, rfl⟩⟩
    · simp only [if_neg hin]
      obtain ⟨n, n0, n1, rfl⟩ := in_n (a := 2) (b := 60) hin rfl rfl (by decide) (by decide)
      rw [c_Main_blows_11 C_lw, g_Main_blows_14, lw_tab n (by omega) n0, cln (n := n) (by omega)]
      exact RnI.mk ⟨Ag.rf, rfl, ⟨rfl, rfl⟩⟩
  · intro d σ W f hd h
    obtain ⟨d, rfl⟩ : ∃ e, d = e + 10 := ⟨d - 10, by omega⟩
    rw [g_Model_blows_0, c_Model_blows_9 N_inF, g_Model_blows_12]
    by_cases hin : inF t 2 60 = 0
    · simp only [if_pos hin]
      exact RnI.mk ⟨Ag.I Ag.rf rfl, rfl, ⟨rfl, rfl⟩⟩
    · simp only [if_neg hin]
      obtain ⟨n, n0, n1, rfl⟩ := in_n (a := 2) (b := 60) hin rfl rfl (by decide) (by decide)
      rw [cln (n := n) (by omega)]
      exact (M_table (d := d + 8) (by omega) n0).im (fun τ y ⟨e1, e2⟩ => ⟨(Ag.I Ag.rf rfl).tr (e1.wk rfl), e2, ⟨(e1.1 3209 rfl).trans rfl, (e1.2.2.1 55 rfl).trans rfl⟩⟩)
end BL
