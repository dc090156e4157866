/-! Numbers, states, loops: small laws -/
theorem dS {m d : Nat} (h : m + 1 ≤ d) : ∃ e, d = e + 1 ∧ m ≤ e := ⟨d - 1, by omega, by omega⟩
theorem ixn {k n : Nat} (h : k < n) (hn : n < 2147483648) : ax_ix (nI k) n = true := ax_ix_of (nI_in h (by omega))
theorem cln {n : Nat} (h : n < 2147483648) : Int32.toNatClampNeg (nI n) = n := nI_clamp (by omega)
theorem ix_of {x : Int32} {n : Nat} (h : ax_ix x n = true) : ∃ k, k < n ∧ k < 2147483648 ∧ x = nI k := by
  have h1 := ax_ix_in h
  have h2 : ¬ x < 0 := fun z => h1 (Or.inl z)
  have h3 : x.toNatClampNeg < n := Nat.not_le.mp fun z => h1 (Or.inr z)
  obtain ⟨j, hj, rfl⟩ := nI_of h2
  rw [nI_clamp hj] at h3
  exact ⟨j, h3, by omega, rfl⟩
theorem ix_mono {x : Int32} {n m : Nat} (h : ax_ix x n = true) (hm : n ≤ m) (hm2 : m < 2147483648) : ax_ix x m = true := by
  obtain ⟨k, h1, h2, rfl⟩ := ix_of h
  exact ixn (by omega) hm2
theorem ix_lt {x : Int32} {n : Nat} (h : ax_ix x n = true) : x.toNatClampNeg < n := by
  obtain ⟨k, h1, h2, rfl⟩ := ix_of h
  rw [cln h2]; exact h1
theorem add4 (p : Nat) : (4 : Int32) + nI p = nI (4 + p) := nI_add 4 p
theorem add8 (p : Nat) : (8 : Int32) + nI p = nI (8 + p) := nI_add 8 p
theorem add12 (p : Nat) : (12 : Int32) + nI p = nI (12 + p) := nI_add 12 p
theorem add16 (p : Nat) : (16 : Int32) + nI p = nI (16 + p) := nI_add 16 p
theorem add25 (p : Nat) : (25 : Int32) + nI p = nI (25 + p) := nI_add 25 p
theorem add34 (p : Nat) : (34 : Int32) + nI p = nI (34 + p) := nI_add 34 p
theorem m1 : Int32.ofInt (-1) = -1 := by decide
abbrev rI (σ : Sg) (x : Int32) : Option ax_R := some (mkH σ, some (some (.int x)))
abbrev rV (σ : Sg) : Option ax_R := some (mkH σ, some none)
abbrev rL (σ : Sg) (x : Int64) : Option ax_R := some (mkH σ, some (some (.long x)))
/-! folds -/
def accF (g : Nat → Int32 → Int32) : Nat → Int32 → Int32
  | 0, x => x
  | k + 1, x => g k (accF g k x)
theorem acc_loop {f : Nat → Int32 → Option ax_R} {R : Int32 → Option ax_R} {g : Nat → Int32 → Int32} {n : Nat} (step : ∀ k x, k < n → f k x = f (k + 1) (g k x)) (fin : ∀ x, f n x = R x) (x : Int32) : f 0 x = R (accF g n x) := by
  have h : ∀ k, k ≤ n → f 0 x = f k (accF g k x) := by
    intro k
    induction k with
    | zero => intro _; rfl
    | succ k ih => intro hk; rw [ih (by omega), step k _ (by omega)]; rfl
  rw [h n (Nat.le_refl _), fin]
theorem accF_congr {g h : Nat → Int32 → Int32} : ∀ {n : Nat} {x : Int32}, (∀ k y, k < n → g k y = h k y) → accF g n x = accF h n x
  | 0, _, _ => rfl
  | n + 1, x, hh => by
    show g n (accF g n x) = h n (accF h n x)
    rw [accF_congr (g := g) (h := h) (n := n) (fun k y hk => hh k y (by omega)), hh n _ (by omega)]
def bitF (P : Nat → Bool) (p : Nat) (x : Int32) : Int32 := x ||| (bif P p then 1 <<< (nI p &&& 31) else 0)
def bitsF (n : Nat) (P : Nat → Bool) : Int32 := accF (bitF P) n 0
def sumF (n : Nat) (v : Nat → Int32) : Int32 := accF (fun p x => x + v p) n 0
/-- the first of them, or -1 -/
def fndF (P : Nat → Bool) : Nat → Nat → Int32
  | 0, _ => -1
  | m + 1, k => bif P k then nI k else fndF P m (k + 1)
theorem fnd_loop {f : Nat → Option ax_R} {R : Int32 → Option ax_R} {P : Nat → Bool} {n : Nat} (step : ∀ k, k < n → f k = bif P k then R (nI k) else f (k + 1)) (fin : f n = R (-1)) : f 0 = R (fndF P n 0) := by
  have h : ∀ m k, k + m = n → f k = R (fndF P m k) := by
    intro m
    induction m with
    | zero => intro k hk; have : k = n := by omega
              subst this; exact fin
    | succ m ih =>
      intro k hk
      rw [step k (by omega)]
      show (bif P k then R (nI k) else f (k + 1)) = R (bif P k then nI k else fndF P m (k + 1))
      cases P k with
      | true => rfl
      | false => exact ih (k + 1) (by omega)
  exact h n 0 (by omega)
theorem fndF_congr {P Q : Nat → Bool} : ∀ (m k : Nat), (∀ i, k ≤ i → i < k + m → P i = Q i) → fndF P m k = fndF Q m k
  | 0, _, _ => rfl
  | m + 1, k, h => by
    show (bif P k then nI k else fndF P m (k + 1)) = (bif Q k then nI k else fndF Q m (k + 1))
    rw [h k (Nat.le_refl _) (by omega), fndF_congr m (k + 1) (fun i h1 h2 => h i (by omega) (by omega))]
theorem fndF_cases (P : Nat → Bool) : ∀ (m k : Nat), k + m < 2147483648 → fndF P m k = -1 ∨ ∃ i, k ≤ i ∧ i < k + m ∧ P i = true ∧ fndF P m k = nI i
  | 0, _, _ => Or.inl rfl
  | m + 1, k, h => by
    show (bif P k then nI k else fndF P m (k + 1)) = -1 ∨ ∃ i, k ≤ i ∧ i < k + (m + 1) ∧ P i = true ∧ (bif P k then nI k else fndF P m (k + 1)) = nI i
    cases hp : P k with
    | true => exact Or.inr ⟨k, Nat.le_refl _, by omega, hp, rfl⟩
    | false =>
      rcases fndF_cases P m (k + 1) (by omega) with h1 | ⟨i, h1, h2, h3, h4⟩
      · exact Or.inl h1
      · exact Or.inr ⟨i, by omega, by omega, h3, h4⟩
/-! states -/
def Ag (K : List Nat) (σ τ : Sg) : Prop := (∀ n, K.contains n = false → sI τ n = sI σ n) ∧ (∀ a, K.contains (10000 + a) = false → sA τ a = sA σ a) ∧ (∀ a, K.contains (20000 + a) = false → sL τ a = sL σ a) ∧ (∀ b, K.contains (30000 + b) = false → sB τ b = sB σ b) ∧ (K.contains 40000 = false → sR τ = sR σ) ∧ sT τ = sT σ ∧ sX τ = sX σ
section AG
variable {K K' : List Nat} {σ τ ρ : Sg} {n a b i : Nat} {x : Int32} {z : Int64} {u : Bool} {o : Option Nat}
theorem Ag.rf : Ag K σ σ := ⟨fun _ _ => rfl, fun _ _ => rfl, fun _ _ => rfl, fun _ _ => rfl, fun _ => rfl, rfl, rfl⟩
theorem Ag.tr (h : Ag K σ τ) (g : Ag K τ ρ) : Ag K σ ρ := ⟨fun n k => (g.1 n k).trans (h.1 n k), fun n k => (g.2.1 n k).trans (h.2.1 n k), fun n k => (g.2.2.1 n k).trans (h.2.2.1 n k), fun n k => (g.2.2.2.1 n k).trans (h.2.2.2.1 n k), fun k => (g.2.2.2.2.1 k).trans (h.2.2.2.2.1 k), g.2.2.2.2.2.1.trans h.2.2.2.2.2.1, g.2.2.2.2.2.2.trans h.2.2.2.2.2.2⟩
theorem Ag.wk (h : Ag K σ τ) (hk : K.all (fun x => K'.contains x) = true) : Ag K' σ τ := by
  have key : ∀ n, K'.contains n = false → K.contains n = false := by
    intro n hn
    cases hc : K.contains n with
    | false => rfl
    | true =>
      have h1 := List.all_eq_true.mp hk n (List.contains_iff_mem.mp hc)
      have h1 : K'.contains n = true := h1
      rw [hn] at h1; cases h1
  exact ⟨fun n k => h.1 n (key _ k), fun n k => h.2.1 n (key _ k), fun n k => h.2.2.1 n (key _ k), fun n k => h.2.2.2.1 n (key _ k), fun k => h.2.2.2.2.1 (key _ k), h.2.2.2.2.2⟩
theorem Ag.I (h : Ag K σ τ) (hk : K.contains n = true) : Ag K σ (uI τ n x) := by
  refine ⟨fun m hm => ?_, h.2.1, h.2.2.1, h.2.2.2.1, h.2.2.2.2.1, h.2.2.2.2.2⟩
  have hne : m ≠ n := fun e => by rw [e, hk] at hm; cases hm
  exact (if_neg hne).trans (h.1 m hm)
theorem Ag.A (h : Ag K σ τ) (hk : K.contains (10000 + a) = true) : Ag K σ (uA τ a i x) := by
  refine ⟨h.1, fun m hm => ?_, h.2.2.1, h.2.2.2.1, h.2.2.2.2.1, h.2.2.2.2.2⟩
  have hne : m ≠ a := fun e => by rw [e, hk] at hm; cases hm
  exact (if_neg hne).trans (h.2.1 m hm)
theorem Ag.C {c k : Nat} (h : Ag K σ τ) (hk : K.contains (10000 + a) = true) : Ag K σ (uC τ c a k) := by
  refine ⟨h.1, fun m hm => ?_, h.2.2.1, h.2.2.2.1, h.2.2.2.2.1, h.2.2.2.2.2⟩
  have hne : m ≠ a := fun e => by rw [e, hk] at hm; cases hm
  exact (if_neg hne).trans (h.2.1 m hm)
theorem Ag.L (h : Ag K σ τ) (hk : K.contains (20000 + a) = true) : Ag K σ (uL τ a i z) := by
  refine ⟨h.1, h.2.1, fun m hm => ?_, h.2.2.2.1, h.2.2.2.2.1, h.2.2.2.2.2⟩
  have hne : m ≠ a := fun e => by rw [e, hk] at hm; cases hm
  exact (if_neg hne).trans (h.2.2.1 m hm)
theorem Ag.B (h : Ag K σ τ) (hk : K.contains (30000 + n) = true) : Ag K σ (uB τ n u) := by
  refine ⟨h.1, h.2.1, h.2.2.1, fun m hm => ?_, h.2.2.2.2.1, h.2.2.2.2.2⟩
  have hne : m ≠ n := fun e => by rw [e, hk] at hm; cases hm
  exact (if_neg hne).trans (h.2.2.2.1 m hm)
theorem Ag.R (h : Ag K σ τ) (hk : K.contains 40000 = true) : Ag K σ (uR τ o) := ⟨h.1, h.2.1, h.2.2.1, h.2.2.2.1, fun k => absurd k (by rw [hk]; decide), h.2.2.2.2.2⟩
theorem I_I {m : Nat} (h : m ≠ n) : sI (uI σ n x) m = sI σ m := if_neg h
theorem I_S : sI (uI σ n x) n = x := if_pos rfl
theorem I_A {m : Nat} : sI (uA σ a i x) m = sI σ m := rfl
theorem I_L {m : Nat} : sI (uL σ a i z) m = sI σ m := rfl
theorem I_B {m : Nat} : sI (uB σ n u) m = sI σ m := rfl
theorem I_R {m : Nat} : sI (uR σ o) m = sI σ m := rfl
theorem I_C {m k : Nat} : sI (uC σ a b k) m = sI σ m := rfl
theorem A_I : sA (uI σ n x) a = sA σ a := rfl
theorem A_A (h : b ≠ a) : sA (uA σ a i x) b = sA σ b := if_neg h
theorem A_S : sA (uA σ a i x) a = upd (sA σ a) i x := if_pos rfl
theorem A_L : sA (uL σ a i z) b = sA σ b := rfl
theorem A_B : sA (uB σ n u) a = sA σ a := rfl
theorem A_R : sA (uR σ o) a = sA σ a := rfl
theorem A_C {m k : Nat} (h : m ≠ b) : sA (uC σ a b k) m = sA σ m := if_neg h
theorem A_CS {k : Nat} : sA (uC σ a b k) b = va_cpy (sA σ a) (sA σ b) 0 0 k := if_pos rfl
theorem L_I : sL (uI σ n x) a = sL σ a := rfl
theorem L_A : sL (uA σ b i x) a = sL σ a := rfl
theorem L_L (h : b ≠ a) : sL (uL σ a i z) b = sL σ b := if_neg h
theorem L_S : sL (uL σ a i z) a = vp_updL (sL σ a) i z := if_pos rfl
theorem upS {f : Nat → Int32} : upd f n x n = x := if_pos rfl
theorem upN {f : Nat → Int32} {m : Nat} (h : m ≠ n) : upd f n x m = f m := if_neg h
theorem vuS {f : Nat → Int64} : vp_updL f n z n = z := if_pos rfl
theorem vuN {f : Nat → Int64} {m : Nat} (h : m ≠ n) : vp_updL f n z m = f m := if_neg h
/-- one place of a row -/
theorem A_at {j : Nat} : sA (uA σ a i x) a j = if j = i then x else sA σ a j := by rw [A_S]; rfl
end AG
/-- what a call brings -/
def RnI (o : Option ax_R) (Q : Sg → Int32 → Prop) : Prop := ∃ τ x, o = rI τ x ∧ Q τ x
def RnV (o : Option ax_R) (Q : Sg → Prop) : Prop := ∃ τ, o = rV τ ∧ Q τ
theorem RnI.mk {σ : Sg} {x : Int32} {Q : Sg → Int32 → Prop} (h : Q σ x) : RnI (rI σ x) Q := ⟨σ, x, rfl, h⟩
theorem RnV.mk {σ : Sg} {Q : Sg → Prop} (h : Q σ) : RnV (rV σ) Q := ⟨σ, rfl, h⟩
theorem RnI.im {o : Option ax_R} {Q Q' : Sg → Int32 → Prop} (h : RnI o Q) (hq : ∀ τ x, Q τ x → Q' τ x) : RnI o Q' := by
  obtain ⟨τ, x, h1, h2⟩ := h
  exact ⟨τ, x, h1, hq τ x h2⟩
theorem RnV.im {o : Option ax_R} {Q Q' : Sg → Prop} (h : RnV o Q) (hq : ∀ τ, Q τ → Q' τ) : RnV o Q' := by
  obtain ⟨τ, h1, h2⟩ := h
  exact ⟨τ, h1, hq τ h2⟩
/-- a loop: k up to n, the states with P, then on -/
theorem lpI {P : Nat → Sg → Prop} {f : Nat → Sg → Option ax_R} {Q : Sg → Int32 → Prop} {n : Nat} (step : ∀ k σ, k < n → P k σ → (∀ τ, P (k + 1) τ → RnI (f (k + 1) τ) Q) → RnI (f k σ) Q) (fin : ∀ σ, P n σ → RnI (f n σ) Q) : ∀ (m k : Nat) (σ : Sg), k + m = n → P k σ → RnI (f k σ) Q
  | 0, k, σ, hk, hp => by
    have : k = n := by omega
    subst this
    exact fin σ hp
  | m + 1, k, σ, hk, hp => step k σ (by omega) hp (fun τ hτ => lpI step fin m (k + 1) τ (by omega) hτ)
theorem lpV {P : Nat → Sg → Prop} {f : Nat → Sg → Option ax_R} {Q : Sg → Prop} {n : Nat} (step : ∀ k σ, k < n → P k σ → (∀ τ, P (k + 1) τ → RnV (f (k + 1) τ) Q) → RnV (f k σ) Q) (fin : ∀ σ, P n σ → RnV (f n σ) Q) : ∀ (m k : Nat) (σ : Sg), k + m = n → P k σ → RnV (f k σ) Q
  | 0, k, σ, hk, hp => by
    have : k = n := by omega
    subst this
    exact fin σ hp
  | m + 1, k, σ, hk, hp => step k σ (by omega) hp (fun τ hτ => lpV step fin m (k + 1) τ (by omega) hτ)
