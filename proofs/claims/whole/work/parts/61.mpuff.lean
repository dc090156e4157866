/-! How hard one blows, by the reference -/
def heF (T : Nat → Int32) (e a : Nat) : Int32 := if a < e then T a else -1
/-- a byte, and the sign that it is -/
def bT (y t : Int32) : Prop := y &&& 255 = t ∧ (Int32.toInt8 y).toInt32 = y
/-- what is read -/
def Src (σ : Sg) (T : Nat → Int32) (e : Nat) : Prop := (sR σ = some 54 ∧ e ≤ 80 ∧ ∀ i, i < e → bT (sA σ 54 i) (T i)) ∨ (∃ u, sR σ = some (mr u) ∧ e ≤ 40 ∧ ∀ i, i < e → bT (sA σ (mr u) i) (T i))
/-- .. as far as n, at most m of it, from a on -/
def RD (σ : Sg) (T : Nat → Int32) (n m a : Nat) : Prop := sI σ 3212 = nI n ∧ sI σ 3213 = nI m ∧ sI σ 3214 = nI a ∧ n ≤ 80 ∧ m ≤ 80 ∧ a ≤ 2000 ∧ Src σ T (min n m)
/-- the text T, n long, is a rule of value E -/
def MEv (T : Nat → Int32) (n : Nat) (E : (Nat → Int32) → Int32) : Prop := ∀ (d : Nat) (σ : Sg) (th : Nat → Int32), 300 ≤ d → RD σ T n 40 0 → sI σ 3215 = -1 → sI σ 3220 = 1 → (∀ k, k < 6 → sA σ 59 k = th k) → RnI (ev d 38 0 [(0, .ref 50), (1, .int 0)] [] (mkH σ)) (fun τ x => Ag [3214, 3215] σ τ ∧ x = E th)
def MR (σ : Sg) (E : (Nat → Int32) → Int32) : Prop := ∃ n, n ≤ 40 ∧ sI σ 3219 = nI n ∧ ((n = 0 ∧ E = dflF) ∨ (0 < n ∧ ∃ T, (∀ i, i < n → bT (sA σ (mr (sB σ 3)) i) (T i)) ∧ MEv T n E))
theorem MR.ag {σ τ : Sg} {E : (Nat → Int32) → Int32} {K : List Nat} (h : MR σ E) (g : Ag K σ τ) (hk : dj K [3219, 10057, 10058, 30003] = true) : MR τ E := by
  have a0 := g.1 3219 (dj_m hk (by decide))
  have a1 := g.2.1 57 (dj_m hk (by decide))
  have a2 := g.2.1 58 (dj_m hk (by decide))
  have a3 := g.2.2.2.1 3 (dj_m hk (by decide))
  have a4 : sA τ (mr (sB σ 3)) = sA σ (mr (sB σ 3)) := by
    cases sB σ 3
    · exact a1
    · exact a2
  unfold MR
  rw [a0, a3, a4]
  exact h
theorem Lv.ag {W : Wd} {v : Bool} {σ τ : Sg} {f : Nat → Int32} {K : List Nat} (h : Lv W (sA σ (ma v)) f) (g : Ag K σ τ) (hk : K.contains (10000 + ma v) = false) : Lv W (sA τ (ma v)) f := by
  rw [g.2.1 _ hk]; exact h
def kP : List Nat := [10059, 40000, 3212, 3213, 3214, 3215, 3220]
section MPUFF
variable {d : Nat} {σ : Sg} {v : Bool} {W : Wd} {f : Nat → Int32}
theorem N_puff (hd : 300 ≤ d) (hW : WO W) (hw : MW W σ) (ho : OK W f) (hf : Lv W (sA σ (ma v)) f) (hr : MR σ (wV W)) {p : Nat} (hp : p < wp W) : RnI (ev (d + 1) 48 0 [(0, .ref 50), (1, .ref (ma v)), (2, .int (nI p))] [] (mkH σ)) (fun τ x => Ag kP σ τ ∧ x = puF W f p) := by
  have w4 := hW.1
  have w9 := hW.2.1
  obtain ⟨d, rfl, hd2⟩ := dS (m := 299) hd
  rw [g_Model_puffOf_0, add25, add34, ixn (k := 25 + p) (by omega) (by decide), cond_true, cln (n := 25 + p) (by omega), (hf.2.1 p hp).2.1]
  by_cases aw : f (25 + p) = 0
  · rw [if_pos aw]
    exact RnI.mk ⟨Ag.rf, by unfold puF; rw [if_pos aw]⟩
  rw [if_neg aw, ixn (k := 34 + p) (by omega) (by decide), cond_true, cln (n := 34 + p) (by omega), (hf.2.1 p hp).2.2]
  have hr0 := hr
  obtain ⟨n, hn, h19, hE⟩ := hr
  rcases hE with ⟨rfl, hE⟩ | ⟨h0, T, hT, hE⟩
  · rw [h19, if_pos (by decide)]
    refine RnI.mk ⟨Ag.rf, ?_⟩
    unfold puF puV
    rw [if_neg aw, hE]; rfl
  rw [h19, if_neg (nI_nle h0 (by omega))]
  obtain ⟨b, hb, hb2, eb⟩ := ix_of (ho.2 p hp).1
  rw [g_Model_puffOf_32, add16, ixn (k := 16 + p) (by omega) (by decide), cond_true, cln (n := 16 + p) (by omega), (hf.2.1 p hp).1, eb, g_Model_puffOf_47, ixn (k := p) (by omega) (by decide), cond_true, cln (n := p) (by omega)]
  generalize hs1 : uA σ 59 0 (f (34 + p)) = s1
  have a1 : Ag kP σ s1 := hs1 ▸ Ag.A Ag.rf rfl
  rw [a1.2.1 53 rfl, hw.2.2.2.2 p hp, g_Model_puffOf_59, add8, ixn (k := 8 + b) (by omega) (by decide), cond_true, cln (n := 8 + b) (by omega)]
  generalize hs2 : uA s1 59 1 (wl W p) = s2
  have a2 : Ag kP σ s2 := hs2 ▸ Ag.A a1 rfl
  rw [(hf.ag a2 (by cases v <;> rfl)).1 b hb |>.2.2.1]
  generalize hs3 : uA s2 59 2 (f (8 + b)) = s3
  have a3 : Ag kP σ s3 := hs3 ▸ Ag.A a2 rfl
  rw [c_Model_puffOf_81 (N_aboard hW (hw.ag a3 rfl) (hf.ag a3 (by cases v <;> rfl))), c_Model_puffOf_84 bc_ev, g_Model_puffOf_87, show ax_ix 3 6 = true from by decide, cond_true, ixn (k := b) (by omega) (by decide), cond_true, add4, ixn (k := 4 + b) (by omega) (by decide), cond_true, cln (n := 4 + b) (by omega), cln (n := b) (by omega), show Int32.toNatClampNeg 3 = 3 from rfl]
  generalize hs4 : uA s3 59 3 (bcF (abF W f (nI b))) = s4
  have a4 : Ag kP σ s4 := hs4 ▸ Ag.A a3 rfl
  have f4 := hf.ag a4 (by cases v <;> rfl)
  rw [(f4.1 b hb).1, (f4.1 b hb).2.1, c_Model_puffOf_105 N_next, c_Model_puffOf_108 (N_on hW (hw.ag a4 rfl) f4), g_Model_puffOf_111, m1, show ax_ix 4 6 = true from by decide, cond_true, cond_true, show Int32.toNatClampNeg 4 = 4 from rfl]
  have key : ∀ me, me = meF W f b → RnI (ev (d + 1 + 1) 48 145 [(0, .ref 50), (1, .ref (ma v)), (2, .int (nI p)), (3, .int (f (34 + p))), (4, .int ((f (34 + p) + 1) / 2)), (5, .int (nI b))] [.int 40, .int (sI s4 3219), .ref (mr (sB s4 3)), .ref 50] (mkH (uA (uA s4 59 4 me) 59 5 (sA (uA s4 59 4 me) (ma v) 43 - sA (uA s4 59 4 me) (ma v) 43 / 12 * 12)))) (fun τ x => Ag kP σ τ ∧ x = puF W f p) := by
    intro me hme
    generalize hs5 : uA s4 59 4 me = s5
    have a5 : Ag kP σ s5 := hs5 ▸ Ag.A a4 rfl
    have f5 := hf.ag a5 (by cases v <;> rfl)
    rw [f5.2.2]
    generalize hs6 : uA s5 59 5 (f 43 - f 43 / 12 * 12) = s6
    have a6 : Ag kP σ s6 := hs6 ▸ Ag.A a5 rfl
    have e19 : sI s4 3219 = nI n := (a4.1 3219 rfl).trans h19
    rw [e19]
    have eB : sB s6 3 = sB s4 3 := by rw [a6.2.2.2.1 3 rfl, a4.2.2.2.1 3 rfl]
    rw [← eB, c_Model_puffOf_145 (g_Model_begin_r_0 (d := d)), g_Model_puffOf_148, m1]
    generalize hs7 : uI (uI (uI (uI (uR s6 (some (mr (sB s6 3)))) 3212 (nI n)) 3213 40) 3214 0) 3215 (-1) = s7
    have a7 : Ag kP σ s7 := hs7 ▸ Ag.I (Ag.I (Ag.I (Ag.I (Ag.R a6 rfl) rfl) rfl) rfl) rfl
    generalize hs8 : uI s7 3220 1 = s8
    have a8 : Ag kP σ s8 := hs8 ▸ Ag.I a7 rfl
    have hmr : ∀ i, i < n → bT (sA s8 (mr (sB s6 3)) i) (T i) := by
      intro i hi
      have e3 : sB s6 3 = sB σ 3 := a6.2.2.2.1 3 rfl
      have e4 : sA s8 (mr (sB σ 3)) = sA σ (mr (sB σ 3)) := by
        cases sB σ 3
        · exact a8.2.1 57 rfl
        · exact a8.2.1 58 rfl
      rw [e3, e4]; exact hT i hi
    have hrd : RD s8 T n 40 0 := by
      rw [← hs8, ← hs7]
      refine ⟨rfl, rfl, rfl, by omega, by omega, by omega, Or.inr ⟨sB s6 3, rfl, by omega, fun i hi => ?_⟩⟩
      rw [hs7, hs8]
      exact hmr i (by omega)
    have hth : ∀ k, k < 6 → sA s8 59 k = th6 (f (34 + p)) (wl W p) (f (8 + b)) (bcF (abF W f (nI b))) me (f 43 - f 43 / 12 * 12) k := by
      intro k hk
      rw [← hs8, ← hs7, A_I, A_I, A_I, A_I, A_I, A_R, ← hs6, ← hs5, ← hs4, ← hs3, ← hs2, ← hs1]
      match k, hk with
      | 0, _ => simp only [A_at]; rfl
      | 1, _ => simp only [A_at]; rfl
      | 2, _ => simp only [A_at]; rfl
      | 3, _ => simp only [A_at]; rfl
      | 4, _ => simp only [A_at]; rfl
      | 5, _ => simp only [A_at]; rfl
    obtain ⟨τ, x, e1, e2, e3⟩ := hE (d + 1) s8 _ (by omega) hrd (by rw [← hs8, ← hs7]; rfl) (by rw [← hs8]; rfl) hth
    rw [c_Model_puffOf_155 e1, g_Model_puffOf_158]
    refine RnI.mk ⟨Ag.I (a8.tr (e2.wk rfl)) rfl, ?_⟩
    unfold puF puV
    rw [if_neg aw, eb, cln hb2, e3, hme]; rfl
  rcases on_cases (f := f) (c := nxF (f b) (f (4 + b))) hW with e | ⟨i, i1, i2, i3⟩
  · rw [if_pos e]
    exact key 0 (by unfold meF; rw [if_pos e])
  · rw [if_neg (by rw [i3]; exact nI_nm1 (by omega))]
    exact key 1 (by unfold meF; rw [i3, if_neg (nI_nm1 (by omega))])
theorem N_wind (hd : 300 ≤ d) (hW : WO W) (hw : MW W σ) (ho : OK W f) (hf : Lv W (sA σ (ma v)) f) (hr : MR σ (wV W)) {b : Nat} (hb : b < wb W) : RnI (ev (d + 2) 49 0 [(0, .ref 50), (1, .ref (ma v)), (2, .int (nI b))] [] (mkH σ)) (fun τ x => Ag kP σ τ ∧ x = wiF W f b) := by
  have w4 := hW.1
  have w9 := hW.2.1
  rw [g_Model_windOf_0, add8, ixn (by omega) (by decide), cond_true, cln (by omega), (hf.1 b hb).2.2.1]
  refine lpG (α := Sg × Int32) (n := wp W) (P := fun k a => Ag kP σ a.1 ∧ a.2 = accF (wiG W f b) k (-(f (8 + b))))
    (f := fun k a => ev (d + 2) 49 11 [(0, .ref 50), (1, .ref (ma v)), (2, .int (nI b)), (3, .int a.2), (4, .int (nI k))] [] (mkH a.1)) (Q := fun o => RnI o _) ?_ ?_ (wp W) 0 (σ, -(f (8 + b))) (by omega) ⟨Ag.rf, rfl⟩
  · rintro k ⟨ρ, z⟩ hk ⟨p1, p2⟩ nx
    have p1 : Ag kP σ ρ := p1
    have p2 : z = accF (wiG W f b) k (-(f (8 + b))) := p2
    show RnI (ev (d + 2) 49 11 [(0, .ref 50), (1, .ref (ma v)), (2, .int (nI b)), (3, .int z), (4, .int (nI k))] [] (mkH ρ)) _
    have hf' := hf.ag p1 (by cases v <;> rfl)
    have hw' := hw.ag p1 rfl
    have ew : accF (wiG W f b) (k + 1) (-(f (8 + b))) = if f (16 + k) = nI b then (if f (25 + k) = 0 then z + -1 else z + puF W f k) else z := by rw [p2]; rfl
    rw [g_Model_windOf_11, hw'.2.1, if_neg (nI_ge hk (by omega)), add16, ixn (k := 16 + k) (by omega) (by decide), cond_true, cln (n := 16 + k) (by omega), (hf'.2.1 k hk).1]
    by_cases c1 : f (16 + k) = nI b
    · rw [if_pos c1, add25, ixn (k := 25 + k) (by omega) (by decide), cond_true, cln (n := 25 + k) (by omega), (hf'.2.1 k hk).2.1]
      rw [if_pos c1] at ew
      by_cases c2 : f (25 + k) = 0
      · rw [if_pos c2, nI_1, m1]
        rw [if_pos c2] at ew
        exact nx (ρ, z + -1) ⟨p1, ew.symm⟩
      · rw [if_neg c2] at ew
        obtain ⟨τ, x, h1, h2, h3⟩ := N_puff (d := d) hd hW hw' ho hf' (hr.ag p1 rfl) hk
        rw [if_neg c2, c_Model_windOf_50 h1, g_Model_windOf_53, nI_1]
        exact nx (τ, z + x) ⟨p1.tr h2, by rw [h3]; exact ew.symm⟩
    · rw [if_neg c1, nI_1]
      rw [if_neg c1] at ew
      exact nx (ρ, z) ⟨p1, ew.symm⟩
  · rintro ⟨ρ, z⟩ ⟨p1, p2⟩
    have p1 : Ag kP σ ρ := p1
    have p2 : z = accF (wiG W f b) (wp W) (-(f (8 + b))) := p2
    show RnI (ev (d + 2) 49 11 [(0, .ref 50), (1, .ref (ma v)), (2, .int (nI b)), (3, .int z), (4, .int (nI (wp W)))] [] (mkH ρ)) _
    have hw' := hw.ag p1 rfl
    rw [g_Model_windOf_11, hw'.2.1, if_pos (nI_le (Nat.le_refl _) (by omega))]
    exact RnI.mk ⟨p1, by rw [p2]; rfl⟩
end MPUFF
