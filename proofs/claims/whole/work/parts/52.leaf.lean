/-! Keys; leaves of the class -/
def dj (K L : List Nat) : Bool := L.all (fun x => !K.contains x)
theorem dj_m {K L : List Nat} (h : dj K L = true) {x : Nat} (hx : x ∈ L) : K.contains x = false := by
  have h1 : (!K.contains x) = true := List.all_eq_true.mp h x hx
  cases hc : K.contains x with
  | false => rfl
  | true => rw [hc] at h1; exact absurd h1 (by decide)
def kFR (w : Bool) : List Nat := [10000 + fa w 0, 10000 + fa w 1, 10000 + fa w 2, 10000 + fa w 3, 10000 + fa w 9, 10000 + fa w 10, 10000 + fa w 11, fi w 2]
theorem FR.ag {W : Wd} {w : Bool} {σ τ : Sg} {f : Nat → Int32} {K : List Nat} (h : FR W w σ f) (g : Ag K σ τ) (hk : dj K (kFR w) = true) : FR W w τ f := by
  have a0 := g.2.1 (fa w 0) (dj_m hk (by simp [kFR]))
  have a1 := g.2.1 (fa w 1) (dj_m hk (by simp [kFR]))
  have a2 := g.2.1 (fa w 2) (dj_m hk (by simp [kFR]))
  have a3 := g.2.1 (fa w 3) (dj_m hk (by simp [kFR]))
  have a9 := g.2.1 (fa w 9) (dj_m hk (by simp [kFR]))
  have a10 := g.2.1 (fa w 10) (dj_m hk (by simp [kFR]))
  have a11 := g.2.1 (fa w 11) (dj_m hk (by simp [kFR]))
  have i2 := g.1 (fi w 2) (dj_m hk (by simp [kFR]))
  unfold FR
  rw [a0, a1, a2, a3, a9, a10, a11, i2]
  exact h
def kCW (w : Bool) : List Nat := [fi w 5, fi w 14, 10000 + fa w 8]
theorem CW.ag {W : Wd} {w : Bool} {σ τ : Sg} {K : List Nat} (h : CW W w σ) (g : Ag K σ τ) (hk : dj K (kCW w) = true) : CW W w τ := by
  have a0 := g.1 (fi w 5) (dj_m hk (by simp [kCW]))
  have a1 := g.1 (fi w 14) (dj_m hk (by simp [kCW]))
  have a2 := g.2.1 (fa w 8) (dj_m hk (by simp [kCW]))
  unfold CW
  rw [a0, a1, a2]
  exact h
theorem CC.ag {W : Wd} {σ τ : Sg} {K : List Nat} (h : CC W σ) (g : Ag K σ τ) (hk : dj K [193, 10004] = true) : CC W τ := by
  have a0 := g.1 193 (dj_m hk (by decide))
  have a1 := g.2.1 4 (dj_m hk (by decide))
  unfold CC
  rw [a0, a1]
  exact h
theorem MW.ag {W : Wd} {σ τ : Sg} {K : List Nat} (h : MW W σ) (g : Ag K σ τ) (hk : dj K [3201, 3202, 3203, 10052, 10053] = true) : MW W τ := by
  have a0 := g.1 3201 (dj_m hk (by decide))
  have a1 := g.1 3202 (dj_m hk (by decide))
  have a2 := g.1 3203 (dj_m hk (by decide))
  have a3 := g.2.1 52 (dj_m hk (by decide))
  have a4 := g.2.1 53 (dj_m hk (by decide))
  unfold MW
  rw [a0, a1, a2, a3, a4]
  exact h
/-! indices -/
theorem ix_neg {x : Int32} {n : Nat} (h : x < 0) : ax_ix x n = false := by
  cases hc : ax_ix x n with
  | false => rfl
  | true => exact absurd (Or.inl h) (ax_ix_in hc)
theorem ix_ge {j n : Nat} (h : n ≤ j) (hj : j < 2147483648) : ax_ix (nI j) n = false := by
  cases hc : ax_ix (nI j) n with
  | false => rfl
  | true => exact absurd (Or.inr (by rw [nI_clamp (by omega)]; exact h)) (ax_ix_in hc)
theorem ixc {α : Type} {x : Int32} {n : Nat} (hn : n < 2147483648) (A B : α) : (if x < 0 then A else (if nI n ≤ x then A else B)) = bif ax_ix x n then B else A := by
  by_cases h1 : x < 0
  · rw [if_pos h1, ix_neg h1]; rfl
  · obtain ⟨j, hj, rfl⟩ := nI_of h1
    rw [if_neg h1]
    by_cases h2 : j < n
    · rw [if_neg (nI_ge h2 (by omega)), ixn h2 hn]; rfl
    · rw [if_pos (nI_le (by omega) hj), ix_ge (by omega) (by omega)]; rfl
/-- within, as the reference asks -/
theorem ixc2 {α : Type} {x : Int32} {n : Nat} (hn : n < 2147483648) (A B : α) : (if x < 0 then A else (if nI n - 1 < x then A else B)) = bif ax_ix x n then B else A := by
  by_cases h1 : x < 0
  · rw [if_pos h1, ix_neg h1]; rfl
  · obtain ⟨j, hj, rfl⟩ := nI_of h1
    rw [if_neg h1]
    cases n with
    | zero =>
      have h0 : nI 0 - 1 < nI j := by
        rw [Int32.lt_iff_toInt_lt, nI_toInt hj, show (nI 0 - 1 : Int32).toInt = -1 from by decide]
        omega
      rw [if_pos h0, ix_ge (by omega) (by omega)]; rfl
    | succ m =>
      rw [nI_pred]
      by_cases h2 : j < m + 1
      · rw [if_neg (nI_nlt (by omega) (by omega)), ixn h2 hn]; rfl
      · rw [if_pos (nI_lt (by omega) hj), ix_ge (by omega) (by omega)]; rfl
theorem ix_n {k n : Nat} (hk : k < 2147483648) (h : ax_ix (nI k) n = true) : k < n := by
  have := ix_lt h
  rwa [nI_clamp (by omega)] at this
theorem ix_cl {x : Int32} {n : Nat} (h : ax_ix x n = true) : x = nI (Int32.toNatClampNeg x) := by
  obtain ⟨k, h1, h2, rfl⟩ := ix_of h
  rw [show Int32.toNatClampNeg (nI k) = k from nI_clamp (by omega)]
theorem beq_t {x y : Int32} (h : x = y) : (x == y) = true := by rw [h]; exact beq_self_eq_true y
theorem beq_f {x y : Int32} (h : ¬ x = y) : (x == y) = false := beq_eq_false_iff_ne.mpr h
theorem z1_or {x : Int32} (h : z1 x) : x = 0 ∨ x = 1 := h
theorem z1_n0 {x : Int32} (h : z1 x) (h0 : ¬ x = 0) : x = 1 := h.resolve_left h0
/-! leaves -/
section LEAF
variable {d : Nat} {σ : Sg} {w : Bool} {x y : Int32} {n m : Nat} {W : Wd} {f : Nat → Int32}
theorem C_has (h : sI σ 193 = nI n) (hn : n < 2147483648) : ev (d + 1) 127 0 [(0, .ref 3), (1, .int x)] [] (mkH σ) = rI σ (bif ax_ix x n then 1 else 0) := by
  rw [g_Canal_has_0, h, ixc hn]
  cases ax_ix x n <;> rfl
theorem CK_bend {c k : Int32} (h : CK c k) : (c = 98) = (k = -1) := by
  rcases h with ⟨rfl, rfl⟩ | ⟨rfl, rfl⟩ | ⟨j, h1, h2, rfl, rfl⟩
  · decide
  · decide
  · refine propext ⟨fun z => ?_, fun z => ?_⟩
    · have := (nI_eq (a := 48 + j) (b := 98) (by omega) (by omega)).mp z; omega
    · have := congrArg Int32.toInt z
      rw [nI_toInt (by omega)] at this
      have h3 : (-1 : Int32).toInt = -1 := by decide
      rw [h3] at this; omega
theorem CK_lock {c k : Int32} (h : CK c k) {σ : Sg} : (if c < 49 then rI σ 0 else (if c ≤ 57 then rI σ (c - 48) else rI σ 0)) = rI σ (mxF 0 k) := by
  rcases h with ⟨rfl, rfl⟩ | ⟨rfl, rfl⟩ | ⟨j, h1, h2, rfl, rfl⟩
  · rw [if_pos (by decide)]; rfl
  · rw [if_neg (by decide), if_neg (by decide)]; rfl
  · rw [if_neg (show ¬ nI (48 + j) < (49 : Int32) from nI_nlt (a := 48 + j) (b := 49) (by omega) (by omega)), if_pos (Int32.not_lt.mp (show ¬ (57 : Int32) < nI (48 + j) from nI_nlt (a := 57) (b := 48 + j) (by omega) (by omega)))]
    have e : nI (48 + j) - 48 = nI j := by
      rw [Nat.add_comm, ← nI_add]
      show nI j + 48 - 48 = nI j
      exact Int32.add_sub_cancel _ _
    rw [e]
    show rI σ (nI j) = rI σ (if 0 < nI j then nI j else 0)
    rw [if_pos (show (0 : Int32) < nI j from nI_lt (a := 0) (b := j) (by omega) (by omega))]
theorem C_bend (hc : CC W σ) (hW : WO W) : ev (d + 2) 128 0 [(0, .ref 3), (1, .int x)] [] (mkH σ) = rI σ (bif ax_ix x (wc W) then (if wK W (Int32.toNatClampNeg x) = -1 then 1 else 0) else 0) := by
  rw [g_Canal_isBend_0, hc.1, ixc (by have := hW.2.2.2.1; omega)]
  cases hx : ax_ix x (wc W) with
  | false => rfl
  | true =>
    rw [cond_true, ix_mono hx hW.2.2.2.1 (by decide), cond_true]
    have h1 := CK_bend (hc.2 _ (ix_lt hx))
    by_cases h2 : sA σ 4 (Int32.toNatClampNeg x) = 98
    · rw [if_pos h2, cond_true, if_pos (h1 ▸ h2)]
    · rw [if_neg h2, cond_true, if_neg (h1 ▸ h2)]
theorem C_lock (hc : CC W σ) (hW : WO W) : ev (d + 2) 129 0 [(0, .ref 3), (1, .int x)] [] (mkH σ) = rI σ (bif ax_ix x (wc W) then mxF 0 (wK W (Int32.toNatClampNeg x)) else 0) := by
  rw [g_Canal_lockOn_0, hc.1, ixc (by have := hW.2.2.2.1; omega)]
  cases hx : ax_ix x (wc W) with
  | false => rfl
  | true =>
    rw [cond_true, ix_mono hx hW.2.2.2.1 (by decide), cond_true, cond_true, cond_true, cond_true]
    exact CK_lock (hc.2 _ (ix_lt hx))
theorem F_hasB (h : sI σ (fi w 5) = nI n) (hn : n < 2147483648) : ev (d + 1) 142 0 [(0, .ref (fo w)), (1, .int x)] [] (mkH σ) = rI σ (bif ax_ix x n then 1 else 0) := by
  rw [g_Fleet_hasBarge_0, h, ixc hn]
  cases ax_ix x n <;> rfl
theorem F_hasP (h : sI σ (fi w 14) = nI n) (hn : n < 2147483648) : ev (d + 1) 143 0 [(0, .ref (fo w)), (1, .int x)] [] (mkH σ) = rI σ (bif ax_ix x n then 1 else 0) := by
  rw [g_Fleet_hasPassenger_0, h, ixc hn]
  cases ax_ix x n <;> rfl
theorem F_step {b : Nat} (hb : b < 4) : ev (d + 1) 144 0 [(0, .ref (fo w)), (1, .int (nI b))] [] (mkH σ) = rI σ (if sA σ (fa w 1) b = 0 then 1 else -1) := by
  rw [g_Fleet_stepOf_0, ixn hb (by decide), cond_true, cln (by omega)]
  split <;> rfl
theorem F_on {m : Nat} (hm : m ≤ 4) : ev (d + 1) 145 0 [(0, .ref (fo w)), (1, .int x), (2, .int (nI m))] [] (mkH σ) = rI σ (fndF (fun b => sA σ (fa w 0) b == x) m 0) := by
  rw [g_Fleet_bargeOn_0]
  refine fnd_loop (f := fun k => ev (d + 1) 145 2 [(0, .ref (fo w)), (1, .int x), (2, .int (nI m)), (3, .int (nI k))] [] (mkH σ)) (R := fun v => rI σ v) (n := m) (fun k hk => ?_) ?_
  · show ev (d + 1) 145 2 [(0, .ref (fo w)), (1, .int x), (2, .int (nI m)), (3, .int (nI k))] [] (mkH σ) = _
    rw [g_Fleet_bargeOn_2, if_neg (nI_ge hk (by omega)), ixn (by omega) (by decide), cond_true, cln (by omega), nI_1]
    by_cases hq : sA σ (fa w 0) k = x
    · rw [if_pos hq, beq_t hq]; rfl
    · rw [if_neg hq, beq_f hq]; rfl
  · show ev (d + 1) 145 2 [(0, .ref (fo w)), (1, .int x), (2, .int (nI m)), (3, .int (nI m))] [] (mkH σ) = _
    rw [g_Fleet_bargeOn_2, if_pos (nI_le (Nat.le_refl m) (by omega))]; rfl
theorem F_from {b : Nat} (hb : b < 4) : ev (d + 1) 146 0 [(0, .ref (fo w)), (1, .int (nI b)), (2, .int x)] [] (mkH σ) = rI σ (asF (sA σ (fa w 0) b - x)) := by
  rw [g_Fleet_cellsFrom_0, ixn hb (by decide), cond_true, cln (by omega)]; rfl
theorem F_apart {a b : Nat} (ha : a < 4) (hb : b < 4) : ev (d + 2) 147 0 [(0, .ref (fo w)), (1, .int (nI a)), (2, .int (nI b))] [] (mkH σ) = rI σ (asF (sA σ (fa w 0) a - sA σ (fa w 0) b)) := by
  rw [g_Fleet_apart_0, ixn hb (by decide), cond_true, cln (by omega), c_Fleet_apart_8 (F_from ha), g_Fleet_apart_11]
theorem F_aboard (h : sI σ (fi w 14) = nI n) (hn : n ≤ 9) : ev (d + 1) 148 0 [(0, .ref (fo w)), (1, .int x)] [] (mkH σ) = rI σ (bitsF n (fun p => sA σ (fa w 9) p == x)) := by
  rw [g_Fleet_aboardBits_0]
  refine acc_loop (f := fun k v => ev (d + 1) 148 4 [(0, .ref (fo w)), (1, .int x), (2, .int v), (3, .int (nI k))] [] (mkH σ)) (R := fun v => rI σ v) (n := n) (fun k v hk => ?_) (fun v => ?_) 0
  · show ev (d + 1) 148 4 [(0, .ref (fo w)), (1, .int x), (2, .int v), (3, .int (nI k))] [] (mkH σ) = _
    rw [g_Fleet_aboardBits_4, h, if_neg (nI_ge hk (by omega)), ixn (by omega) (by decide), cond_true, cln (by omega), nI_1]
    dsimp only [bitF]
    by_cases hq : sA σ (fa w 9) k = x
    · rw [if_pos hq, beq_t hq, cond_true]
    · rw [if_neg hq, beq_f hq, cond_false]
  · show ev (d + 1) 148 4 [(0, .ref (fo w)), (1, .int x), (2, .int v), (3, .int (nI n))] [] (mkH σ) = _
    rw [g_Fleet_aboardBits_4, h, if_pos (nI_le (Nat.le_refl n) (by omega))]
theorem F_awake (h : sI σ (fi w 14) = nI n) (hn : n ≤ 9) : ev (d + 1) 149 0 [(0, .ref (fo w))] [] (mkH σ) = rI σ (bitsF n (fun p => !(sA σ (fa w 10) p == 0))) := by
  rw [g_Fleet_awakeBits_0]
  refine acc_loop (f := fun k v => ev (d + 1) 149 4 [(0, .ref (fo w)), (1, .int v), (2, .int (nI k))] [] (mkH σ)) (R := fun v => rI σ v) (n := n) (fun k v hk => ?_) (fun v => ?_) 0
  · show ev (d + 1) 149 4 [(0, .ref (fo w)), (1, .int v), (2, .int (nI k))] [] (mkH σ) = _
    rw [g_Fleet_awakeBits_4, h, if_neg (nI_ge hk (by omega)), ixn (by omega) (by decide), cond_true, cln (by omega), nI_1]
    dsimp only [bitF]
    by_cases hq : sA σ (fa w 10) k = 0
    · rw [if_pos hq, beq_t hq]; rfl
    · rw [if_neg hq, beq_f hq]; rfl
  · show ev (d + 1) 149 4 [(0, .ref (fo w)), (1, .int v), (2, .int (nI n))] [] (mkH σ) = _
    rw [g_Fleet_awakeBits_4, h, if_pos (nI_le (Nat.le_refl n) (by omega))]
theorem F_there (h : sI σ (fi w 5) = nI n) (hn : n ≤ 4) : ev (d + 1) 150 0 [(0, .ref (fo w))] [] (mkH σ) = rI σ (bitsF n (fun p => !(sA σ (fa w 3) p == 0))) := by
  rw [g_Fleet_thereBits_0]
  refine acc_loop (f := fun k v => ev (d + 1) 150 4 [(0, .ref (fo w)), (1, .int v), (2, .int (nI k))] [] (mkH σ)) (R := fun v => rI σ v) (n := n) (fun k v hk => ?_) (fun v => ?_) 0
  · show ev (d + 1) 150 4 [(0, .ref (fo w)), (1, .int v), (2, .int (nI k))] [] (mkH σ) = _
    rw [g_Fleet_thereBits_4, h, if_neg (nI_ge hk (by omega)), ixn (by omega) (by decide), cond_true, cln (by omega), nI_1]
    dsimp only [bitF]
    by_cases hq : sA σ (fa w 3) k = 0
    · rw [if_pos hq, beq_t hq]; rfl
    · rw [if_neg hq, beq_f hq]; rfl
  · show ev (d + 1) 150 4 [(0, .ref (fo w)), (1, .int v), (2, .int (nI n))] [] (mkH σ) = _
    rw [g_Fleet_thereBits_4, h, if_pos (nI_le (Nat.le_refl n) (by omega))]
theorem F_arrived (h : sI σ (fi w 5) = nI n) (hn : n ≤ 4) : ev (d + 2) 151 0 [(0, .ref (fo w))] [] (mkH σ) = rI σ (bcF (bitsF n (fun p => !(sA σ (fa w 3) p == 0)))) := by
  rw [g_Fleet_arrived_0, c_Fleet_arrived_1 (F_there h hn), c_Fleet_arrived_4 bc_ev, g_Fleet_arrived_7]
theorem F_lungs (h : sI σ (fi w 14) = nI n) (hn : n ≤ 9) : ev (d + 1) 152 0 [(0, .ref (fo w)), (1, .int x)] [] (mkH σ) = rI σ (bitsF n (fun p => decide (x ≤ sA σ (fa w 8) p))) := by
  rw [g_Fleet_lungsBits_0]
  refine acc_loop (f := fun k v => ev (d + 1) 152 4 [(0, .ref (fo w)), (1, .int x), (2, .int v), (3, .int (nI k))] [] (mkH σ)) (R := fun v => rI σ v) (n := n) (fun k v hk => ?_) (fun v => ?_) 0
  · show ev (d + 1) 152 4 [(0, .ref (fo w)), (1, .int x), (2, .int v), (3, .int (nI k))] [] (mkH σ) = _
    rw [g_Fleet_lungsBits_4, h, if_neg (nI_ge hk (by omega)), ixn (by omega) (by decide), cond_true, cln (by omega), nI_1]
    dsimp only [bitF]
    by_cases hq : x ≤ sA σ (fa w 8) k
    · rw [decide_eq_true hq]
      first | rw [if_pos hq]; rfl | rw [if_neg (Int32.not_lt.mpr hq)]; rfl
    · rw [decide_eq_false hq]
      first | rw [if_neg hq]; rfl | rw [if_pos (Int32.not_le.mp hq)]; rfl
  · show ev (d + 1) 152 4 [(0, .ref (fo w)), (1, .int x), (2, .int v), (3, .int (nI n))] [] (mkH σ) = _
    rw [g_Fleet_lungsBits_4, h, if_pos (nI_le (Nat.le_refl n) (by omega))]
theorem F_airOf (h : sI σ (fi w 14) = nI n) (hn : n ≤ 9) : ev (d + 1) 153 0 [(0, .ref (fo w)), (1, .int x)] [] (mkH σ) = rI σ (sumF n (fun p => bif hsF x p then sA σ (fa w 11) p else 0)) := by
  rw [g_Fleet_airOf_0]
  refine acc_loop (f := fun k v => ev (d + 1) 153 4 [(0, .ref (fo w)), (1, .int x), (2, .int v), (3, .int (nI k))] [] (mkH σ)) (R := fun v => rI σ v) (n := n) (fun k v hk => ?_) (fun v => ?_) 0
  · show ev (d + 1) 153 4 [(0, .ref (fo w)), (1, .int x), (2, .int v), (3, .int (nI k))] [] (mkH σ) = _
    rw [g_Fleet_airOf_4, h, if_neg (nI_ge hk (by omega)), ixn (by omega) (by decide), cond_true, cln (by omega), nI_1]
    dsimp only [hsF]
    by_cases hq : (x >>> (nI k &&& 31)) &&& 1 = 1
    · rw [if_pos hq, beq_t hq, cond_true]
    · rw [if_neg hq, beq_f hq, cond_false]
  · show ev (d + 1) 153 4 [(0, .ref (fo w)), (1, .int x), (2, .int v), (3, .int (nI n))] [] (mkH σ) = _
    rw [g_Fleet_airOf_4, h, if_pos (nI_le (Nat.le_refl n) (by omega))]
theorem hs_m1 {p : Nat} (hp : p < 9) : hsF (-1) p = true := by
  match p, hp with
  | 0, _ => decide
  | 1, _ => decide
  | 2, _ => decide
  | 3, _ => decide
  | 4, _ => decide
  | 5, _ => decide
  | 6, _ => decide
  | 7, _ => decide
  | 8, _ => decide
theorem F_allAir (h : sI σ (fi w 14) = nI n) (hn : n ≤ 9) : ev (d + 2) 154 0 [(0, .ref (fo w))] [] (mkH σ) = rI σ (sumF n (fun p => sA σ (fa w 11) p)) := by
  rw [g_Fleet_allAir_0, c_Fleet_allAir_2 (F_airOf h hn), g_Fleet_allAir_5]
  have e : sumF n (fun p => bif hsF (Int32.ofInt (-1)) p then sA σ (fa w 11) p else 0) = sumF n (fun p => sA σ (fa w 11) p) := by
    unfold sumF
    refine accF_congr (fun k y hk => ?_)
    dsimp only
    rw [m1, hs_m1 (p := k) (by omega), cond_true]
  rw [e]
theorem F_cargo (h : sI σ (fi w 5) = nI n) (hn : n ≤ 4) : ev (d + 1) 155 0 [(0, .ref (fo w))] [] (mkH σ) = rI σ (sumF n (fun p => sA σ (fa w 2) p)) := by
  rw [g_Fleet_allCargo_0]
  refine acc_loop (f := fun k v => ev (d + 1) 155 4 [(0, .ref (fo w)), (1, .int v), (2, .int (nI k))] [] (mkH σ)) (R := fun v => rI σ v) (n := n) (fun k v hk => ?_) (fun v => ?_) 0
  · show ev (d + 1) 155 4 [(0, .ref (fo w)), (1, .int v), (2, .int (nI k))] [] (mkH σ) = _
    dsimp only
    rw [g_Fleet_allCargo_4, h, if_neg (nI_ge hk (by omega)), ixn (by omega) (by decide), cond_true, cln (by omega), nI_1]
  · show ev (d + 1) 155 4 [(0, .ref (fo w)), (1, .int v), (2, .int (nI n))] [] (mkH σ) = _
    rw [g_Fleet_allCargo_4, h, if_pos (nI_le (Nat.le_refl n) (by omega))]
end LEAF
