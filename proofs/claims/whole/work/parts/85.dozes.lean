/-! dozes -/
abbrev nL (n : Nat) : Int64 := Int64.ofNat n
theorem nL_toInt {n : Nat} (h : n < 9223372036854775808) : (nL n).toInt = n := Int64.toInt_ofNat_of_lt h
theorem nL_i {n : Nat} (h : n < 2147483648) : Int32.toInt64 (nI n) = nL n := by
  apply Int64.toInt_inj.mp
  rw [Int32.toInt_toInt64, nI_toInt h, nL_toInt (by omega)]
theorem nL_0 {n : Nat} (h : n < 9223372036854775808) (e : nL n = 0) : n = 0 := by
  have := congrArg Int64.toInt e
  rw [nL_toInt h, show (0 : Int64).toInt = 0 from by decide] at this
  omega
theorem nL_add {a b : Nat} : nL a + nL b = nL (a + b) := (Int64.ofNat_add a b).symm
theorem nL_mul {a b : Nat} : nL a * nL b = nL (a * b) := (Int64.ofNat_mul a b).symm
theorem nL_sub {a b : Nat} (h : b ≤ a) : nL a - nL b = nL (a - b) := (Int64.ofNat_sub a b h).symm
theorem nL_div {a b : Nat} (ha : a < 9223372036854775808) (hb : b < 9223372036854775808) : nL a / nL b = nL (a / b) := (Int64.ofNat_div ha hb).symm
theorem nL_mod {a b : Nat} (ha : a < 9223372036854775808) (hb : b < 9223372036854775808) : nL a - nL a / nL b * nL b = nL (a % b) := by
  rw [nL_div ha hb, nL_mul, nL_sub (Nat.div_mul_le_self a b)]
  congr 1
  have := Nat.div_add_mod a b
  rw [Nat.mul_comm] at this
  omega
theorem cmp_0 {n : Nat} (h : n < 9223372036854775808) : lg_cmp (nL n) 0 = (if n = 0 then 0 else 1) := by
  rcases Nat.eq_zero_or_pos n with z | z
  · subst z; rfl
  · have h1 : ¬ nL n < 0 := fun q => by
      have := Int64.lt_iff_toInt_lt.mp q
      rw [nL_toInt h, show (0 : Int64).toInt = 0 from by decide] at this
      omega
    have h2 : (0 : Int64) < nL n := Int64.lt_iff_toInt_lt.mpr (by
      rw [nL_toInt h, show (0 : Int64).toInt = 0 from by decide]
      omega)
    have h3 : ¬ n = 0 := by omega
    simp [lg_cmp, h1, h2, h3]
/-! the greatest divisor of both -/
def eu : Nat → Nat → Nat → Nat
  | 0, a, _ => a
  | k + 1, a, b => if b = 0 then a else eu k b (a % b)
def Ends : Nat → Nat → Nat → Prop
  | 0, _, b => b = 0
  | k + 1, a, b => b = 0 ∨ Ends k b (a % b)
theorem ends_log : ∀ j a b, b < 2 ^ j → Ends (2 * j + 1) a b
  | 0, a, b, h => Or.inl (by rw [Nat.pow_zero] at h; omega)
  | j + 1, a, b, h => by
    show b = 0 ∨ (a % b = 0 ∨ Ends (2 * j + 1) (a % b) (b % (a % b)))
    rcases Nat.eq_zero_or_pos b with z | z
    · exact Or.inl z
    · refine Or.inr ?_
      have h1 := Nat.mod_lt a z
      generalize a % b = c at h1 ⊢
      rcases Nat.eq_zero_or_pos c with y | y
      · exact Or.inl y
      · refine Or.inr (ends_log j c (b % c) ?_)
        have h2 := Nat.mod_lt b y
        have h3 := Nat.div_add_mod b c
        have h4 : 1 ≤ b / c := Nat.div_pos (by omega) y
        have h5 : c * 1 ≤ c * (b / c) := Nat.mul_le_mul_left c h4
        rw [Nat.pow_succ] at h
        omega
theorem ends_up : ∀ k a b, Ends k a b → ∀ j, Ends (k + j) a b
  | 0, a, b, h, 0 => h
  | 0, a, b, h, j + 1 => by rw [Nat.zero_add]; exact Or.inl h
  | k + 1, a, b, h, j => by
    rw [show k + 1 + j = (k + j) + 1 by omega]
    rcases h with z | z
    · exact Or.inl z
    · exact Or.inr (ends_up k b (a % b) z j)
theorem eu_same : ∀ k a b, Ends k a b → ∀ j, eu (k + j) a b = eu k a b
  | 0, a, b, h, 0 => rfl
  | 0, a, b, h, j + 1 => by
    rw [Nat.zero_add]
    show (if b = 0 then a else eu j b (a % b)) = a
    rw [if_pos (show b = 0 from h)]
  | k + 1, a, b, h, j => by
    rw [show k + 1 + j = (k + j) + 1 by omega]
    show (if b = 0 then a else eu (k + j) b (a % b)) = (if b = 0 then a else eu k b (a % b))
    by_cases z : b = 0
    · rw [if_pos z, if_pos z]
    · rw [if_neg z, if_neg z, eu_same k b (a % b) (h.resolve_left z) j]
theorem eu_pos : ∀ k a b, Ends k a b → 0 < a ∨ 0 < b → 0 < eu k a b
  | 0, a, b, h, p => by
    have h : b = 0 := h
    show 0 < a
    omega
  | k + 1, a, b, h, p => by
    show 0 < (if b = 0 then a else eu k b (a % b))
    by_cases z : b = 0
    · rw [if_pos z]; omega
    · rw [if_neg z]; exact eu_pos k b (a % b) (h.resolve_left z) (Or.inl (by omega))
theorem eu_lt {m : Nat} : ∀ k a b, a < m → b < m → eu k a b < m
  | 0, a, b, h, _ => h
  | k + 1, a, b, h, h2 => by
    show (if b = 0 then a else eu k b (a % b)) < m
    by_cases z : b = 0
    · rw [if_pos z]; exact h
    · rw [if_neg z]; exact eu_lt k b (a % b) h2 (Nat.lt_of_le_of_lt (Nat.mod_le a b) h)
section DZ
variable {d : Nat} {σ : Sg} {W : Wd} {f : Nat → Int32}
theorem C_gcd {a b : Nat} (ha : a < 9223372036854775808) (hb : b < 9223372036854775808) : ev (d + 1) 172 0 [(0, .long (nL a)), (2, .long (nL b))] [] (mkH σ) = rL σ (nL (eu 200 a b)) := by
  have key : ∀ k x y, k ≤ 200 → x < 9223372036854775808 → y < 9223372036854775808 → ev (d + 1) 172 9 [(0, .long (nL a)), (2, .long (nL b)), (4, .long (nL x)), (6, .long (nL y)), (8, .int (nI (200 - k)))] [] (mkH σ) = rL σ (nL (eu k x y)) := by
    intro k
    induction k with
    | zero =>
      intro x y _ hx hy
      rw [g_Games_commonDivisor_9, if_pos (by decide)]; rfl
    | succ k ih =>
      intro x y hk hx hy
      rw [g_Games_commonDivisor_9, if_neg (show ¬ (200 : Int32) ≤ nI (200 - (k + 1)) from nI_ge (a := 200 - (k + 1)) (b := 200) (by omega) (by decide)), cmp_0 hy]
      show _ = rL σ (nL (if y = 0 then x else eu k y (x % y)))
      by_cases z : y = 0
      · rw [if_pos z, if_pos rfl, if_pos z]
      · rw [if_neg z, if_neg (by decide), if_neg (fun e => z (nL_0 hy e)), if_neg z, nL_mod hx hy, nI_1, show 200 - (k + 1) + 1 = 200 - k by omega]
        exact ih y (x % y) (by omega) hy (Nat.lt_of_le_of_lt (Nat.mod_le x y) hx)
  rw [g_Games_commonDivisor_0]
  exact key 200 a b (Nat.le_refl _) ha hb
theorem M_gcd : ∀ k {d a b : Nat}, k ≤ d → Ends k a b → a < 9223372036854775808 → b < 9223372036854775808 → ev (d + 1) 109 0 [(0, .long (nL a)), (2, .long (nL b))] [] (mkH σ) = rL σ (nL (eu k a b))
  | 0, d, a, b, _, h, ha, hb => by
    have h : b = 0 := h
    rw [g_Model_common_0, cmp_0 hb, if_pos h, if_pos rfl]; rfl
  | k + 1, d, a, b, hd, h, ha, hb => by
    obtain ⟨d, rfl⟩ : ∃ e, d = e + 1 := ⟨d - 1, by omega⟩
    rw [g_Model_common_0, cmp_0 hb]
    show _ = rL σ (nL (if b = 0 then a else eu k b (a % b)))
    by_cases z : b = 0
    · rw [if_pos z, if_pos rfl, if_pos z]
    · rw [if_neg z, if_neg (by decide), if_neg (fun e => z (nL_0 hb e)), if_neg z, nL_mod ha hb, c_Model_common_14 (M_gcd k (d := d) (by omega) (h.resolve_left z) hb (Nat.lt_of_le_of_lt (Nat.mod_le a b) ha)), g_Model_common_17]
theorem C_pw {b n : Nat} (hn : n < 1000) : ev (d + 1) 170 0 [(0, .long (nL b)), (2, .int (nI n))] [] (mkH σ) = rL σ (nL (b ^ n)) := by
  have key : ∀ j i, i + j = n → ev (d + 1) 170 5 [(0, .long (nL b)), (2, .int (nI n)), (3, .long (nL (b ^ i))), (5, .int (nI i))] [] (mkH σ) = rL σ (nL (b ^ n)) := by
    intro j
    induction j with
    | zero =>
      intro i hi
      have : i = n := by omega
      subst this
      rw [g_Games_power_5, if_pos (nI_le (Nat.le_refl _) (by omega))]
    | succ j ih =>
      intro i hi
      rw [g_Games_power_5, if_neg (nI_ge (by omega) (by omega)), nL_mul, nI_1, ← Nat.pow_succ]
      exact ih (i + 1) (by omega)
  rw [g_Games_power_0]
  exact key n 0 (by omega)
theorem M_pw {b n : Nat} (hn : n < 1000) : ev (d + 1) 110 0 [(0, .long (nL b)), (2, .int (nI n))] [] (mkH σ) = rL σ (nL (b ^ n)) := by
  have key : ∀ j i, i + j = n → ev (d + 1) 110 5 [(0, .long (nL b)), (2, .int (nI n)), (3, .long (nL (b ^ i))), (5, .int (nI i))] [] (mkH σ) = rL σ (nL (b ^ n)) := by
    intro j
    induction j with
    | zero =>
      intro i hi
      have : i = n := by omega
      subst this
      rw [g_Model_power_5, if_pos (nI_le (Nat.le_refl _) (by omega))]
    | succ j ih =>
      intro i hi
      rw [g_Model_power_5, if_neg (nI_ge (by omega) (by omega)), nL_mul, nI_1, ← Nat.pow_succ]
      exact ih (i + 1) (by omega)
  rw [g_Model_power_0]
  exact key n 0 (by omega)
/-! in how many ways they wake -/
def chN (s : Nat) : Nat → Nat
  | 0 => 1
  | w + 1 => chN s w * (s - w) / (w + 1)
theorem ch_tab : ∀ s, s < 10 → ∀ w, w < 11 → chN s w < 1000 := by decide +kernel
def sumN (s k A B : Nat) : Nat → Nat
  | 0 => 0
  | w + 1 => if w < k then sumN s k A B w else sumN s k A B w + chN s w * B ^ w * A ^ (s - w)
theorem sum_tab : ∀ h, h < 5 → ∀ s, s < 10 → h * s ≤ 16 → ∀ k, k < 10 → ∀ t, t < 11 → sumN s k ((10 - t) ^ h) (10 ^ h - (10 - t) ^ h) (s + 1) < 2 ^ 60 := by decide +kernel
theorem ch_s {s w : Nat} (hs : s < 10) (hw : w ≤ s) : nL (chN s w) * Int32.toInt64 (nI s - nI w) / Int32.toInt64 (nI (w + 1)) = nL (chN s (w + 1)) := by
  have h1 := ch_tab s hs w (by omega)
  have h2 : chN s w * (s - w) ≤ 1000 * 10 := Nat.mul_le_mul (by omega) (by omega)
  rw [nI_sub hw, nL_i (by omega), nL_i (by omega), nL_mul, nL_div (by omega) (by omega)]
  rfl
theorem C_ways {s k h t : Nat} (hs : s < 10) (hk : k < 10) (hh : h < 5) (ht : t < 11) : ev (d + 2) 171 0 [(0, .int (nI s)), (1, .int (nI k)), (2, .int (nI h)), (3, .int (nI t))] [] (mkH σ) = rL σ (nL (sumN s k ((10 - t) ^ h) (10 ^ h - (10 - t) ^ h) (s + 1))) := by
  have e10 : Int32.toInt64 ((10 : Int32) - nI t) = nL (10 - t) := by
    rw [show (10 : Int32) - nI t = nI (10 - t) from nI_sub (a := 10) (b := t) (by omega)]; exact nL_i (by omega)
  have hle : (10 - t) ^ h ≤ 10 ^ h := Nat.pow_le_pow_left (by omega) h
  have p10 : ev (d + 1) 170 0 [(0, .long 10), (2, .int (nI h))] [] (mkH σ) = rL σ (nL (10 ^ h)) := C_pw (b := 10) (n := h) (by omega)
  rw [g_Games_waysToWake_0, e10, c_Games_waysToWake_6 (C_pw (b := 10 - t) (n := h) (by omega)), g_Games_waysToWake_9, c_Games_waysToWake_15 p10, g_Games_waysToWake_18, nL_sub hle]
  generalize (10 - t) ^ h = A
  generalize 10 ^ h - A = B
  have key : ∀ j w, w + j = s + 1 → ev (d + 2) 171 32 [(0, .int (nI s)), (1, .int (nI k)), (2, .int (nI h)), (3, .int (nI t)), (4, .long (nL A)), (6, .long (nL B)), (8, .long (nL (sumN s k A B w))), (10, .long (nL (chN s w))), (12, .int (nI w))] [] (mkH σ) = rL σ (nL (sumN s k A B (s + 1))) := by
    intro j
    induction j with
    | zero =>
      intro w hw
      have : w = s + 1 := by omega
      subst this
      rw [g_Games_waysToWake_32, if_pos (nI_lt (by omega) (by omega))]
    | succ j ih =>
      intro w hw
      have hne : ¬ Int32.toInt64 (nI (w + 1)) = 0 := fun e => by
        rw [nL_i (by omega)] at e
        exact absurd (nL_0 (by omega) e) (by omega)
      have nxt := ih (w + 1) (by omega)
      rw [g_Games_waysToWake_32, if_neg (nI_nlt (by omega) (by omega))]
      by_cases hq : w < k
      · rw [if_pos (nI_lt hq (by omega)), nI_1, if_neg hne, ch_s hs (by omega)]
        rw [show sumN s k A B (w + 1) = sumN s k A B w from if_pos hq] at nxt
        exact nxt
      · rw [if_neg (nI_nlt (by omega) (by omega)), c_Games_waysToWake_52 (C_pw (b := B) (n := w) (by omega)), g_Games_waysToWake_55, nI_sub (show w ≤ s by omega), c_Games_waysToWake_62 (C_pw (b := A) (n := s - w) (by omega)), g_Games_waysToWake_65, nI_1, if_neg hne, nL_mul, nL_mul, nL_add, ch_s hs (by omega)]
        rw [show sumN s k A B (w + 1) = sumN s k A B w + chN s w * B ^ w * A ^ (s - w) from if_neg hq] at nxt
        exact nxt
  exact key (s + 1) 0 (by omega)
theorem M_ways {s k h t : Nat} (hs : s < 10) (hk : k < 10) (hh : h < 5) (ht : t < 11) {A B : Nat} : ∃ c : Nat, ev (d + 2) 111 98 [(0, .ref 50), (1, .int (nI h)), (2, .int (nI k)), (3, .int (nI t)), (4, .int (nI s)), (5, .long (nL A)), (7, .long (nL B)), (9, .long 0), (11, .long 1), (13, .int 0)] [] (mkH σ) = ev (d + 2) 111 171 [(0, .ref 50), (1, .int (nI h)), (2, .int (nI k)), (3, .int (nI t)), (4, .int (nI s)), (5, .long (nL A)), (7, .long (nL B)), (9, .long (nL (sumN s k A B (s + 1)))), (11, .long (nL c)), (13, .int (nI (s + 1)))] [.int (nI h * nI s), .long 10] (mkH σ) := by
  refine ⟨chN s (s + 1), ?_⟩
  have key : ∀ j w, w + j = s + 1 → ev (d + 2) 111 98 [(0, .ref 50), (1, .int (nI h)), (2, .int (nI k)), (3, .int (nI t)), (4, .int (nI s)), (5, .long (nL A)), (7, .long (nL B)), (9, .long (nL (sumN s k A B w))), (11, .long (nL (chN s w))), (13, .int (nI w))] [] (mkH σ) = ev (d + 2) 111 171 [(0, .ref 50), (1, .int (nI h)), (2, .int (nI k)), (3, .int (nI t)), (4, .int (nI s)), (5, .long (nL A)), (7, .long (nL B)), (9, .long (nL (sumN s k A B (s + 1)))), (11, .long (nL (chN s (s + 1)))), (13, .int (nI (s + 1)))] [.int (nI h * nI s), .long 10] (mkH σ) := by
    intro j
    induction j with
    | zero =>
      intro w hw
      have : w = s + 1 := by omega
      subst this
      rw [g_Model_dozes_98, if_pos (nI_lt (by omega) (by omega))]
    | succ j ih =>
      intro w hw
      have hne : ¬ Int32.toInt64 (nI (w + 1)) = 0 := fun e => by
        rw [nL_i (by omega)] at e
        exact absurd (nL_0 (by omega) e) (by omega)
      have nxt := ih (w + 1) (by omega)
      rw [g_Model_dozes_98, if_neg (nI_nlt (by omega) (by omega))]
      by_cases hq : w < k
      · rw [if_pos (nI_lt hq (by omega)), nI_1, if_neg hne, ch_s hs (by omega), Int64.add_zero]
        rw [show sumN s k A B (w + 1) = sumN s k A B w from if_pos hq] at nxt
        exact nxt
      · rw [if_neg (nI_nlt (by omega) (by omega)), c_Model_dozes_119 (M_pw (b := B) (n := w) (by omega)), g_Model_dozes_122, nI_sub (show w ≤ s by omega), c_Model_dozes_130 (M_pw (b := A) (n := s - w) (by omega)), g_Model_dozes_133, nI_1, if_neg hne, nL_mul, nL_mul, nL_add, ch_s hs (by omega)]
        rw [show sumN s k A B (w + 1) = sumN s k A B w + chN s w * B ^ w * A ^ (s - w) from if_neg hq] at nxt
        exact nxt
  exact key (s + 1) 0 (by omega)
/-- how many sleep -/
theorem slp (W : Wd) (f : Nat → Int32) (hw : wp W ≤ 9) : ∃ s, s ≤ wp W ∧ nI (wp W) - bcF (awF W f) = nI s := by
  obtain ⟨j, j1, j2⟩ := cnt_n (P := fun p => !(f (25 + p) == 0)) (wp W)
  refine ⟨wp W - j, by omega, ?_⟩
  unfold awF
  rw [bc_bits hw, j2, nI_sub j1]
def dzS (x1 x2 x3 : Int32) (W : Wd) (f : Nat → Int32) : Int32 × Option (List Int64) :=
  if inF x1 1 4 = 0 then (-1, none) else if inF x2 0 9 = 0 then (-1, none) else if inF x3 0 10 = 0 then (-1, none) else
  if x1 * (nI (wp W) - bcF (awF W f)) ≤ 16 then (0, some [nL (sumN (Int32.toNatClampNeg (nI (wp W) - bcF (awF W f))) (Int32.toNatClampNeg x2) ((10 - Int32.toNatClampNeg x3) ^ Int32.toNatClampNeg x1) (10 ^ Int32.toNatClampNeg x1 - (10 - Int32.toNatClampNeg x3) ^ Int32.toNatClampNeg x1) (Int32.toNatClampNeg (nI (wp W) - bcF (awF W f)) + 1)) / nL (eu 200 (sumN (Int32.toNatClampNeg (nI (wp W) - bcF (awF W f))) (Int32.toNatClampNeg x2) ((10 - Int32.toNatClampNeg x3) ^ Int32.toNatClampNeg x1) (10 ^ Int32.toNatClampNeg x1 - (10 - Int32.toNatClampNeg x3) ^ Int32.toNatClampNeg x1) (Int32.toNatClampNeg (nI (wp W) - bcF (awF W f)) + 1)) (10 ^ (Int32.toNatClampNeg x1 * Int32.toNatClampNeg (nI (wp W) - bcF (awF W f))))), nL (10 ^ (Int32.toNatClampNeg x1 * Int32.toNatClampNeg (nI (wp W) - bcF (awF W f)))) / nL (eu 200 (sumN (Int32.toNatClampNeg (nI (wp W) - bcF (awF W f))) (Int32.toNatClampNeg x2) ((10 - Int32.toNatClampNeg x3) ^ Int32.toNatClampNeg x1) (10 ^ Int32.toNatClampNeg x1 - (10 - Int32.toNatClampNeg x3) ^ Int32.toNatClampNeg x1) (Int32.toNatClampNeg (nI (wp W) - bcF (awF W f)) + 1)) (10 ^ (Int32.toNatClampNeg x1 * Int32.toNatClampNeg (nI (wp W) - bcF (awF W f)))))]) else ((Int8.ofInt (-2)).toInt32, none)
theorem p10_tab : ∀ n, n < 17 → 10 ^ n < 2 ^ 60 ∧ 0 < 10 ^ n := by decide +kernel
theorem hs_le {h s : Nat} (hh : h < 5) (hs : s < 10) : nI h * nI s = nI (h * s) ∧ h * s < 100 := ⟨(Int32.ofNat_mul h s).symm, by
  have : h * s ≤ 4 * 9 := Nat.mul_le_mul (by omega) (by omega)
  omega⟩
theorem op_dozes : Op_dozes 400 INV := by
  intro d hd k σ x1 x2 x3 _ h
  refine q_op (D := 400) (dzS x1 x2 x3) (fun W f _ _ => by
    unfold dzS
    split
    · exact trivial
    · split
      · exact trivial
      · split
        · exact trivial
        · split
          · show 2 ≤ 9
            decide
          · exact trivial) ?_ ?_ hd h
  · intro d σ W f hd h
    obtain ⟨d, rfl⟩ : ∃ e, d = e + 10 := ⟨d - 10, by omega⟩
    unfold dzS
    rw [g_Main_dozes_0, c_Main_dozes_3 K_in, g_Main_dozes_6]
    by_cases i1 : inF x1 1 4 = 0
    · rw [if_pos i1, if_pos i1]; exact RnI.mk ⟨Ag.rf, rfl, ⟨rfl, rfl⟩⟩
    rw [if_neg i1, if_neg i1, c_Main_dozes_13 K_in, g_Main_dozes_16]
    by_cases i2 : inF x2 0 9 = 0
    · rw [if_pos i2, if_pos i2]; exact RnI.mk ⟨Ag.rf, rfl, ⟨rfl, rfl⟩⟩
    rw [if_neg i2, if_neg i2, c_Main_dozes_23 K_in, g_Main_dozes_26]
    by_cases i3 : inF x3 0 10 = 0
    · rw [if_pos i3, if_pos i3]; exact RnI.mk ⟨Ag.rf, rfl, ⟨rfl, rfl⟩⟩
    rw [if_neg i3, if_neg i3]
    obtain ⟨n1, a1, b1, rfl⟩ := in_n (a := 1) (b := 4) i1 rfl rfl (by decide) (by decide)
    obtain ⟨n2, a2, b2, rfl⟩ := in_n (a := 0) (b := 9) i2 rfl rfl (by decide) (by decide)
    obtain ⟨n3, a3, b3, rfl⟩ := in_n (a := 0) (b := 10) i3 rfl rfl (by decide) (by decide)
    rw [c_Main_dozes_42 (F_awkF (w := false) h.1 h.2.2.2.2.1 h.2.2.1), c_Main_dozes_45 bc_ev, g_Main_dozes_48, show sI σ 334 = nI (wp W) from h.2.2.1.2.1]
    obtain ⟨s, s1, s2⟩ := slp W f h.1.2.1
    have w9 := h.1.2.1
    obtain ⟨e1, e2⟩ := hs_le (h := n1) (s := s) (by omega) (by omega)
    rw [s2, e1, cln (n := n1) (by omega), cln (n := n2) (by omega), cln (n := n3) (by omega), cln (n := s) (by omega)]
    by_cases h16 : n1 * s ≤ 16
    · have h16' : nI (n1 * s) ≤ (16 : Int32) := show nI (n1 * s) ≤ nI 16 from nI_le h16 (by decide)
      have hS := sum_tab n1 (by omega) s (by omega) h16 n2 (by omega) n3 (by omega)
      obtain ⟨q1, q2⟩ := p10_tab (n1 * s) (by omega)
      have p10 : ev (d + 9) 170 0 [(0, .long 10), (2, .int (nI n1))] [] (mkH σ) = rL σ (nL (10 ^ n1)) := C_pw (b := 10) (n := n1) (by omega)
      rw [if_pos h16', if_pos h16', c_Main_dozes_68 (C_ways (d := d + 7) (by omega) (by omega) (by omega) (by omega)), g_Main_dozes_71, c_Main_dozes_77 p10, g_Main_dozes_80, c_Main_dozes_82 (C_pw (b := 10 ^ n1) (n := s) (by omega)), g_Main_dozes_85, ← Nat.pow_mul]
      generalize sumN s n2 ((10 - n3) ^ n1) (10 ^ n1 - (10 - n3) ^ n1) (s + 1) = S at hS ⊢
      generalize 10 ^ (n1 * s) = A at q1 q2 ⊢
      have hE : Ends 200 S A := ends_up (2 * 60 + 1) S A (ends_log 60 S A q1) 79
      have hp := eu_pos 200 S A hE (Or.inr q2)
      have hl := eu_lt (m := 2 ^ 60) 200 S A hS q1
      have p60 : 2 ^ 60 < 9223372036854775808 := by decide
      rw [c_Main_dozes_91 (C_gcd (d := d + 8) (by omega) (by omega)), g_Main_dozes_94, cmp_0 (by omega), if_neg (show ¬ eu 200 S A = 0 by omega), if_neg (by decide), if_neg (fun e => by have := nL_0 (by omega) e; omega), if_neg (fun e => by have := nL_0 (by omega) e; omega)]
      obtain ⟨ω, t1, t2, t3⟩ := T_two (d := d + 7) (σ := σ) (x := nL S / nL (eu 200 S A)) (y := nL A / nL (eu 200 S A))
      rw [c_Main_dozes_117 t1, g_Main_dozes_120]
      exact RnI.mk ⟨t2.wk rfl, rfl, t3⟩
    · have h16' : ¬ nI (n1 * s) ≤ (16 : Int32) := nI_ge (a := 16) (b := n1 * s) (by omega) (by omega)
      rw [if_neg h16', if_neg h16']; exact RnI.mk ⟨Ag.rf, rfl, ⟨rfl, rfl⟩⟩
  · intro d σ W f hd h
    obtain ⟨d, rfl⟩ : ∃ e, d = e + 10 := ⟨d - 10, by omega⟩
    have a0 : Ag kQm σ (uI σ 3210 0) := Ag.I Ag.rf rfl
    have h1 : MWo W f (uI σ 3210 0) := h.nu rfl
    have nop : ∀ r : Int32, RnI (rI (uI σ 3210 0) r) (fun τ x => Ag kQm σ τ ∧ x = r ∧ MDx σ τ none) := fun r => RnI.mk ⟨a0, rfl, ⟨rfl, rfl⟩⟩
    unfold dzS
    rw [g_Model_dozes_0, c_Model_dozes_8 N_inF, g_Model_dozes_11]
    by_cases i1 : inF x1 1 4 = 0
    · rw [if_pos i1, if_pos i1]; exact nop _
    rw [if_neg i1, if_neg i1, c_Model_dozes_18 N_inF, g_Model_dozes_21]
    by_cases i2 : inF x2 0 9 = 0
    · rw [if_pos i2, if_pos i2]; exact nop _
    rw [if_neg i2, if_neg i2, c_Model_dozes_28 N_inF, g_Model_dozes_31]
    by_cases i3 : inF x3 0 10 = 0
    · rw [if_pos i3, if_pos i3]; exact nop _
    rw [if_neg i3, if_neg i3]
    obtain ⟨n1, a1, b1, rfl⟩ := in_n (a := 1) (b := 4) i1 rfl rfl (by decide) (by decide)
    obtain ⟨n2, a2, b2, rfl⟩ := in_n (a := 0) (b := 9) i2 rfl rfl (by decide) (by decide)
    obtain ⟨n3, a3, b3, rfl⟩ := in_n (a := 0) (b := 10) i3 rfl rfl (by decide) (by decide)
    rw [c_Model_dozes_45 (N_awake (v := false) h1.1 h1.2.2.1 h1.2.1 h1.2.2.2.1), c_Model_dozes_48 bc_ev, g_Model_dozes_51, show sI (uI σ 3210 0) 3203 = nI (wp W) from h1.2.2.1.2.1]
    obtain ⟨s, s1, s2⟩ := slp W f h.1.2.1
    have w9 := h.1.2.1
    obtain ⟨e1, e2⟩ := hs_le (h := n1) (s := s) (by omega) (by omega)
    rw [s2, e1, cln (n := n1) (by omega), cln (n := n2) (by omega), cln (n := n3) (by omega), cln (n := s) (by omega)]
    by_cases h16 : n1 * s ≤ 16
    · have h16' : nI (n1 * s) ≤ (16 : Int32) := show nI (n1 * s) ≤ nI 16 from nI_le h16 (by decide)
      have hS := sum_tab n1 (by omega) s (by omega) h16 n2 (by omega) n3 (by omega)
      obtain ⟨q1, q2⟩ := p10_tab (n1 * s) (by omega)
      have e10 : Int32.toInt64 ((10 : Int32) - nI n3) = nL (10 - n3) := by
        rw [show (10 : Int32) - nI n3 = nI (10 - n3) from nI_sub (a := 10) (b := n3) (by omega)]; exact nL_i (by omega)
      have hle : (10 - n3) ^ n1 ≤ 10 ^ n1 := Nat.pow_le_pow_left (by omega) n1
      have p10 : ev (d + 9) 110 0 [(0, .long 10), (2, .int (nI n1))] [] (mkH (uI σ 3210 0)) = rL (uI σ 3210 0) (nL (10 ^ n1)) := M_pw (b := 10) (n := n1) (by omega)
      have p10' : ev (d + 9) 110 0 [(0, .long 10), (2, .int (nI (n1 * s)))] [] (mkH (uI σ 3210 0)) = rL (uI σ 3210 0) (nL (10 ^ (n1 * s))) := M_pw (b := 10) (n := n1 * s) (by omega)
      rw [if_pos h16', if_pos h16', e10, c_Model_dozes_72 (M_pw (b := 10 - n3) (n := n1) (by omega)), g_Model_dozes_75, c_Model_dozes_81 p10, g_Model_dozes_84, nL_sub hle]
      generalize (10 - n3) ^ n1 = A1 at hS ⊢
      generalize 10 ^ n1 - A1 = B1 at hS ⊢
      obtain ⟨cc, w1⟩ := M_ways (d := d + 8) (σ := uI σ 3210 0) (s := s) (k := n2) (h := n1) (t := n3) (by omega) (by omega) (by omega) (by omega) (A := A1) (B := B1)
      rw [w1, e1, c_Model_dozes_171 p10', g_Model_dozes_174]
      generalize sumN s n2 A1 B1 (s + 1) = S at hS ⊢
      clear p10'
      generalize 10 ^ (n1 * s) = A at q1 q2 ⊢
      have hE : Ends 200 S A := ends_up (2 * 60 + 1) S A (ends_log 60 S A q1) 79
      have hp := eu_pos 200 S A hE (Or.inr q2)
      have hl := eu_lt (m := 2 ^ 60) 200 S A hS q1
      have p60 : 2 ^ 60 < 9223372036854775808 := by decide
      rw [c_Model_dozes_180 (M_gcd 200 (d := d + 8) (by omega) hE (by omega) (by omega)), g_Model_dozes_183, if_neg (fun e => by have := nL_0 (by omega) e; omega)]
      obtain ⟨ω, t1, t2, t3⟩ := N_tell1 (d := d + 8) (σ := uI σ 3210 0) (x := nL S / nL (eu 200 S A))
      obtain ⟨ω2, v1, v2, v3⟩ := N_tell2 (d := d + 8) (y := nL A / nL (eu 200 S A)) t3
      rw [c_Model_dozes_196 t1, g_Model_dozes_199, if_neg (fun e => by have := nL_0 (by omega) e; omega), c_Model_dozes_205 v1, g_Model_dozes_208]
      exact RnI.mk ⟨a0.tr ((t2.wk rfl).tr (v2.wk rfl)), rfl, v3⟩
    · have h16' : ¬ nI (n1 * s) ≤ (16 : Int32) := nI_ge (a := 16) (b := n1 * s) (by omega) (by omega)
      rw [if_neg h16', if_neg h16']; exact nop _
end DZ
