/-! reading: the reference's leaves -/
section RD1
variable {d n m a : Nat} {σ τ : Sg} {T : Nat → Int32} {K : List Nat} {x y : Int32}
theorem uR_self {o : Option Nat} (h : sR σ = o) : uR σ o = σ := by
  subst h; rfl
theorem RD.ag (h : RD σ T n m a) (g : Ag K σ τ) (hk : dj K [3212, 3213, 3214, 40000, 10054, 10057, 10058] = true) : RD τ T n m a := by
  have a0 := g.1 3212 (dj_m hk (by decide))
  have a1 := g.1 3213 (dj_m hk (by decide))
  have a2 := g.1 3214 (dj_m hk (by decide))
  have a3 : sR τ = sR σ := g.2.2.2.2.1 (dj_m hk (by decide))
  have a4 := g.2.1 54 (dj_m hk (by decide))
  have a5 := g.2.1 57 (dj_m hk (by decide))
  have a6 := g.2.1 58 (dj_m hk (by decide))
  obtain ⟨h1, h2, h3, h4, h5, h6, h7⟩ := h
  refine ⟨a0.trans h1, a1.trans h2, a2.trans h3, h4, h5, h6, ?_⟩
  rcases h7 with ⟨q1, q2, q3⟩ | ⟨u, q1, q2, q3⟩
  · exact Or.inl ⟨a3.trans q1, q2, by rw [a4]; exact q3⟩
  · refine Or.inr ⟨u, a3.trans q1, q2, ?_⟩
    cases u
    · show ∀ i, _ → bT (sA τ 57 i) _
      rw [a5]; exact q3
    · show ∀ i, _ → bT (sA τ 58 i) _
      rw [a6]; exact q3
/-- one sign on -/
theorem RD.nx (h : RD σ T n m a) {b : Nat} (hb : b ≤ 2000) (e : x = nI b) : RD (uI σ 3214 x) T n m b := by
  subst e
  obtain ⟨h1, h2, h3, h4, h5, h6, h7⟩ := h
  exact ⟨h1, h2, rfl, h4, h5, hb, h7⟩
theorem N_here (h : RD σ T n m a) : ev (d + 1) 22 0 [(0, .ref 50)] [] (mkH σ) = rI σ (heF T (min n m) a) := by
  obtain ⟨h1, h2, h3, h4, h5, h6, h7⟩ := h
  unfold heF
  rcases h7 with ⟨q1, q2, q3⟩ | ⟨u, q1, q2, q3⟩
  · have e := g_Model_here_t_0 (d := d) (σ := σ)
    rw [uR_self q1, h1, h2, h3] at e
    rw [e]
    rcases Nat.lt_or_ge a n with z | z
    · rw [if_neg (nI_ge z (by omega))]
      rcases Nat.lt_or_ge a m with y | y
      · rw [if_neg (nI_ge y (by omega)), ixn (k := a) (by omega) (by decide), cond_true, cln (n := a) (by omega), (q3 a (by omega)).1, if_pos (by omega)]
      · rw [if_pos (nI_le y (by omega)), if_neg (by omega)]; rfl
    · rw [if_pos (nI_le z (by omega)), if_neg (by omega)]; rfl
  · have e := g_Model_here_r_0 (d := d) (σ := σ) (u := u)
    rw [uR_self q1, h1, h2, h3] at e
    rw [e]
    rcases Nat.lt_or_ge a n with z | z
    · rw [if_neg (nI_ge z (by omega))]
      rcases Nat.lt_or_ge a m with y | y
      · rw [if_neg (nI_ge y (by omega)), ixn (k := a) (by omega) (by decide), cond_true, cln (n := a) (by omega), (q3 a (by omega)).1, if_pos (by omega)]
      · rw [if_pos (nI_le y (by omega)), if_neg (by omega)]; rfl
    · rw [if_pos (nI_le z (by omega)), if_neg (by omega)]; rfl
theorem N_fine1 (h : sI σ 3215 = -1) : ev (d + 1) 23 0 [(0, .ref 50)] [] (mkH σ) = rI σ 1 := by
  rw [g_Model_fine_0, h, if_pos (by decide)]
theorem N_fine0 (h : ¬ sI σ 3215 = -1) : ev (d + 1) 23 0 [(0, .ref 50)] [] (mkH σ) = rI σ 0 := by
  rw [g_Model_fine_0, if_neg (fun e => h (e.trans (by decide)))]
theorem N_fault1 (h : sI σ 3215 = -1) : ev (d + 2) 24 0 [(0, .ref 50), (1, .int x)] [] (mkH σ) = rV (uI σ 3215 x) := by
  rw [g_Model_fault_0, c_Model_fault_1 (N_fine1 h), g_Model_fault_4, if_neg (by decide)]
theorem N_fault0 (h : ¬ sI σ 3215 = -1) : ev (d + 2) 24 0 [(0, .ref 50), (1, .int x)] [] (mkH σ) = rV σ := by
  rw [g_Model_fault_0, c_Model_fault_1 (N_fine0 h), g_Model_fault_4, if_pos rfl]
theorem N_passes0 (h : ¬ sI σ 3215 = -1) : ev (d + 2) 25 0 [(0, .ref 50), (1, .int x)] [] (mkH σ) = rI σ 0 := by
  rw [g_Model_passes_0, c_Model_passes_1 (N_fine0 h), g_Model_passes_4, if_pos rfl]
theorem N_passes1 (h : RD σ T n m a) (hw : sI σ 3215 = -1) : ev (d + 2) 25 0 [(0, .ref 50), (1, .int x)] [] (mkH σ) = if heF T (min n m) a = x then rI (uI σ 3214 (nI (a + 1))) 1 else rI σ 0 := by
  rw [g_Model_passes_0, c_Model_passes_1 (N_fine1 hw), g_Model_passes_4, if_neg (by decide), c_Model_passes_8 (N_here h), g_Model_passes_11, h.2.2.1, nI_1]
/-- wasRight: all is read, and nothing was wrong -/
theorem N_right1 (h : RD σ T n m a) (hw : sI σ 3215 = -1) (hn : n ≤ a) : ev (d + 3) 29 0 [(0, .ref 50)] [] (mkH σ) = rI σ 1 := by
  obtain ⟨h1, h2, h3, h4, h5, h6, h7⟩ := h
  rw [g_Model_wasRight_0, h1, h3, if_pos (nI_le hn (by omega)), c_Model_wasRight_20 (N_fine1 hw), g_Model_wasRight_23, if_pos (Or.inr rfl)]
theorem N_right2 (h : RD σ T n m a) (hw : sI σ 3215 = -1) (hn : a < n) : ev (d + 3) 29 0 [(0, .ref 50)] [] (mkH σ) = rI (uI σ 3215 (nI a)) 0 := by
  obtain ⟨h1, h2, h3, h4, h5, h6, h7⟩ := h
  have hne : ¬ sI (uI σ 3215 (nI a)) 3215 = -1 := nI_nm1 (by omega)
  rw [g_Model_wasRight_0, h1, h3, if_neg (nI_ge hn (by omega)), c_Model_wasRight_16 (N_fault1 hw), g_Model_wasRight_19, c_Model_wasRight_20 (N_fine0 hne), g_Model_wasRight_23, if_pos (Or.inl rfl)]
theorem N_right0 (h : RD σ T n m a) (hw : ¬ sI σ 3215 = -1) : ev (d + 3) 29 0 [(0, .ref 50)] [] (mkH σ) = rI σ 0 := by
  obtain ⟨h1, h2, h3, h4, h5, h6, h7⟩ := h
  rw [g_Model_wasRight_0, h1, h3]
  split
  · rw [c_Model_wasRight_20 (N_fine0 hw), g_Model_wasRight_23, if_pos (Or.inl rfl)]
  · rw [c_Model_wasRight_16 (N_fault0 hw), g_Model_wasRight_19, c_Model_wasRight_20 (N_fine0 hw), g_Model_wasRight_23, if_pos (Or.inl rfl)]
/-- a text is begun -/
def kT : List Nat := [40000, 3212, 3213, 3214, 3215, 3207]
theorem N_text {k n : Nat} (hn : n ≤ 80) (h7 : sI σ 3207 = nI n) (hT : ∀ i, i < n → bT (sA σ 54 i) (T i)) (hm : m ≤ 80) (hx : x = nI m) : RnV (ev (d + 2) 21 0 [(0, .ref 50), (1, .int x)] [] (mkH σ)) (fun τ => Ag kT σ τ ∧ RD τ T n m 0 ∧ sI τ 3215 = -1 ∧ sI τ 3207 = 0) := by
  subst hx
  rw [g_Model_beginText_0, h7, c_Model_beginText_10 (g_Model_begin_t_0 (d := d)), g_Model_beginText_13]
  exact RnV.mk ⟨Ag.I (Ag.I (Ag.I (Ag.I (Ag.I (Ag.R Ag.rf rfl) rfl) rfl) rfl) rfl) rfl, ⟨rfl, rfl, rfl, hn, hm, by omega, Or.inl ⟨rfl, by omega, fun i hi => hT i (by omega)⟩⟩, m1, rfl⟩
end RD1
