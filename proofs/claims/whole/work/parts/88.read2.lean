/-! reading: one of a row of signs -/
theorem bt_pos : ∀ k, k < 128 → nI k &&& 255 = nI k := by decide +kernel
theorem bt_neg : ∀ k : Nat, k < 128 → Int32.ofInt (-((k : Int) + 1)) &&& 255 = nI (255 - k) := by decide +kernel
theorem bT_lt {y : Int32} {j : Nat} (h : bT y (nI j)) (hj : j < 128) : y = nI j := by
  obtain ⟨h1, h2⟩ := h
  have e : y = Int32.ofInt (Int32.toInt8 y).toInt := by
    rw [← Int8.toInt_toInt32, h2]; simp
  have l1 := (Int32.toInt8 y).le_toInt
  have l2 := (Int32.toInt8 y).toInt_lt
  generalize (Int32.toInt8 y).toInt = i at e l1 l2
  rcases Int.lt_or_le i 0 with z | z
  · obtain ⟨k, hk⟩ : ∃ k : Nat, i = -((k : Int) + 1) := ⟨(-i - 1).toNat, by omega⟩
    subst hk
    rw [e, bt_neg k (by omega)] at h1
    exact absurd h1 (nI_ne (by omega) (by omega) (by omega))
  · obtain ⟨k, hk⟩ : ∃ k : Nat, i = (k : Int) := ⟨i.toNat, by omega⟩
    subst hk
    have e2 : y = nI k := e
    rw [e2, bt_pos k (by omega)] at h1
    rw [e2, h1]
section RD2
variable {d n m a : Nat} {σ τ : Sg} {T : Nat → Int32} {K : List Nat} {x y : Int32}
theorem N_one0 (h : RD σ T n m a) (hw : ¬ sI σ 3215 = -1) : ev (d + 3) 27 0 [(0, .ref 50), (1, .int x), (2, .int y)] [] (mkH σ) = rI σ 0 := by
  obtain ⟨h1, h2, h3, h4, h5, h6, h7⟩ := h
  rcases h7 with ⟨q1, q2, q3⟩ | ⟨u, q1, q2, q3⟩
  · have e0 := g_Model_oneOf_t_0 (d := d + 2) (σ := σ) (x1 := x) (x2 := y)
    have e4 := g_Model_oneOf_t_4 (d := d + 2) (σ := σ) (x1 := x) (x2 := y) (r := 0)
    rw [uR_self q1] at e0 e4
    rw [e0, c_Model_oneOf_t_1 (N_fine0 hw), e4, if_pos rfl]
  · have e0 := g_Model_oneOf_r_0 (d := d + 2) (σ := σ) (x1 := x) (x2 := y) (u := u)
    have e4 := g_Model_oneOf_r_4 (d := d + 2) (σ := σ) (x1 := x) (x2 := y) (r := 0) (u := u)
    rw [uR_self q1] at e0 e4
    rw [e0, c_Model_oneOf_r_1 (u := u) (N_fine0 hw), e4, if_pos rfl]
theorem N_one1 (h : RD σ T n m a) (hw : sI σ 3215 = -1) (hx : ∀ c, ¬ inF c x (x + y - 1) = 0 → ∃ j, j < 128 ∧ c = nI j) : ev (d + 3) 27 0 [(0, .ref 50), (1, .int x), (2, .int y)] [] (mkH σ) = if inF (heF T (min n m) a) x (x + y - 1) = 0 then rI (uI σ 3215 (nI a)) 0 else rI (uI σ 3214 (nI (a + 1))) (heF T (min n m) a - x) := by
  have hh := N_here (d := d + 1) h
  obtain ⟨h1, h2, h3, h4, h5, h6, h7⟩ := h
  have hr : ¬ inF (heF T (min n m) a) x (x + y - 1) = 0 → a < min n m ∧ ∃ j, j < 128 ∧ T a = nI j := fun q => by
    obtain ⟨j, j1, j2⟩ := hx _ q
    unfold heF at j2
    by_cases z : a < min n m
    · rw [if_pos z] at j2; exact ⟨z, j, j1, j2⟩
    · rw [if_neg z] at j2; exact absurd j2.symm (nI_nm1 (by omega))
  have es : nI (a + 1) - (1 : Int32) = nI a := nI_sub (a := a + 1) (b := 1) (by omega)
  rcases h7 with ⟨q1, q2, q3⟩ | ⟨u, q1, q2, q3⟩
  · have e0 := g_Model_oneOf_t_0 (d := d + 2) (σ := σ) (x1 := x) (x2 := y)
    have e4 := g_Model_oneOf_t_4 (d := d + 2) (σ := σ) (x1 := x) (x2 := y) (r := 1)
    have e13 := g_Model_oneOf_t_13 (d := d + 2) (σ := σ) (x1 := x) (x2 := y) (r := heF T (min n m) a)
    have e22 := g_Model_oneOf_t_22 (d := d + 2) (σ := σ) (x1 := x) (x2 := y) (r := inF (heF T (min n m) a) x (x + y - 1))
    have e33 := g_Model_oneOf_t_33 (d := d + 2) (σ := uI σ 3215 (nI a)) (x1 := x) (x2 := y)
    rw [uR_self q1] at e0 e4 e13 e22
    rw [uR_self (show sR (uI σ 3215 (nI a)) = some 54 from q1)] at e33
    rw [e0, c_Model_oneOf_t_1 (N_fine1 hw), e4, if_neg (by decide), c_Model_oneOf_t_10 hh, e13, c_Model_oneOf_t_19 N_inF, e22, h3, nI_1, es]
    by_cases z : inF (heF T (min n m) a) x (x + y - 1) = 0
    · rw [if_pos z, if_pos z, c_Model_oneOf_t_30 (N_fault1 (d := d) hw), e33]
    · obtain ⟨z1, j, j1, j2⟩ := hr z
      rw [if_neg z, if_neg z, ixn (k := a) (by omega) (by decide), cond_true, cln (n := a) (by omega)]
      have := q3 a z1
      rw [j2] at this
      rw [bT_lt this j1, show heF T (min n m) a = T a from if_pos z1, j2]
  · have e0 := g_Model_oneOf_r_0 (d := d + 2) (σ := σ) (x1 := x) (x2 := y) (u := u)
    have e4 := g_Model_oneOf_r_4 (d := d + 2) (σ := σ) (x1 := x) (x2 := y) (r := 1) (u := u)
    have e13 := g_Model_oneOf_r_13 (d := d + 2) (σ := σ) (x1 := x) (x2 := y) (r := heF T (min n m) a) (u := u)
    have e22 := g_Model_oneOf_r_22 (d := d + 2) (σ := σ) (x1 := x) (x2 := y) (r := inF (heF T (min n m) a) x (x + y - 1)) (u := u)
    have e33 := g_Model_oneOf_r_33 (d := d + 2) (σ := uI σ 3215 (nI a)) (x1 := x) (x2 := y) (u := u)
    rw [uR_self q1] at e0 e4 e13 e22
    rw [uR_self (show sR (uI σ 3215 (nI a)) = some (mr u) from q1)] at e33
    rw [e0, c_Model_oneOf_r_1 (u := u) (N_fine1 hw), e4, if_neg (by decide), c_Model_oneOf_r_10 (u := u) hh, e13, c_Model_oneOf_r_19 (u := u) N_inF, e22, h3, nI_1, es]
    by_cases z : inF (heF T (min n m) a) x (x + y - 1) = 0
    · rw [if_pos z, if_pos z, c_Model_oneOf_r_30 (u := u) (N_fault1 (d := d) hw), e33]
    · obtain ⟨z1, j, j1, j2⟩ := hr z
      rw [if_neg z, if_neg z, ixn (k := a) (by omega) (by decide), cond_true, cln (n := a) (by omega)]
      have := q3 a z1
      rw [j2] at this
      rw [bT_lt this j1, show heF T (min n m) a = T a from if_pos z1, j2]
/-! the class's script -/
def CT (σ : Sg) (t : Nat → Int32) (e a : Nat) : Prop := sI σ 66 = nI a ∧ sI σ 67 = nI e ∧ sA σ 2 = t ∧ e ≤ 80 ∧ a ≤ 2000
theorem CT.ag {t : Nat → Int32} {e : Nat} (h : CT σ t e a) (g : Ag K σ τ) (hk : dj K [66, 67, 10002] = true) : CT τ t e a :=
  ⟨(g.1 66 (dj_m hk (by decide))).trans h.1, (g.1 67 (dj_m hk (by decide))).trans h.2.1, (g.2.1 2 (dj_m hk (by decide))).trans h.2.2.1, h.2.2.2⟩
theorem CT.nx {t : Nat → Int32} {e b : Nat} (h : CT σ t e a) (hb : b ≤ 2000) (hx : x = nI b) : CT (uI σ 66 x) t e b := by
  subst hx; exact ⟨rfl, h.2.1, h.2.2.1, h.2.2.2.1, hb⟩
theorem C_look {t : Nat → Int32} {e : Nat} (h : CT σ t e a) : ev (d + 1) 204 0 [(0, .ref 1)] [] (mkH σ) = rI σ (heF t e a) := by
  obtain ⟨h1, h2, h3, h4, h5⟩ := h
  unfold heF
  rw [g_Script_look_0, h1, h2]
  rcases Nat.lt_or_ge a e with z | z
  · rw [if_neg (nI_ge z (by omega)), ixn (k := a) (by omega) (by decide), cond_true, cln (n := a) (by omega), h3, if_pos z]
  · rw [if_pos (nI_le z (by omega)), if_neg (by omega)]; rfl
/-- a digit, or -1 -/
theorem C_dig {t : Nat → Int32} {e : Nat} (h : CT σ t e a) : ev (d + 1) 206 0 [(0, .ref 1)] [] (mkH σ) = if inF (heF t e a) 48 57 = 0 then rI σ (-1) else rI (uI σ 66 (nI (a + 1))) (heF t e a - 48) := by
  obtain ⟨h1, h2, h3, h4, h5⟩ := h
  unfold heF
  rw [g_Script_takeDigit_0, h1, h2]
  have es : nI (a + 1) - (1 : Int32) = nI a := nI_sub (a := a + 1) (b := 1) (by omega)
  rcases Nat.lt_or_ge a e with z | z
  · rw [if_neg (nI_ge z (by omega)), ixn (k := a) (by omega) (by decide), cond_true, cond_true, cln (n := a) (by omega), h3, if_pos z, nI_1, es, ixn (k := a) (by omega) (by decide), cond_true, cln (n := a) (by omega)]
    unfold inF
    by_cases z1 : t a < 48
    · rw [if_pos z1, if_pos z1, if_pos rfl]; rfl
    · rw [if_neg z1, if_neg z1]
      by_cases z2 : 57 < t a
      · rw [if_neg (Int32.not_le.mpr z2), if_pos z2, if_pos rfl]; rfl
      · rw [if_pos (Int32.not_lt.mp z2), if_neg z2, if_neg (by decide)]
  · rw [if_pos (nI_le z (by omega)), if_neg (show ¬ a < e by omega), if_pos (show inF (-1) 48 57 = 0 by decide)]; rfl
end RD2
