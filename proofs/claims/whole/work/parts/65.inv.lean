/-! What holds between the calls -/
/-- a state as the class keeps it -/
def cS (st : Nat → Int32) (o i : Nat) : Int32 := if i < 4 then st (o + 1 + 4 * i) else if i < 8 then st (o + 2 + 4 * (i - 4)) else if i < 12 then st (o + 3 + 4 * (i - 8)) else if i < 16 then st (o + 4 + 4 * (i - 12)) else if i < 25 then st (o + 17 + 3 * (i - 16)) else if i < 34 then st (o + 18 + 3 * (i - 25)) else if i < 43 then st (o + 19 + 3 * (i - 34)) else st o
def Tx (σ : Sg) : Prop := ∃ n, n ≤ 80 ∧ sI σ 65 = nI n ∧ sI σ 3207 = nI n ∧ ∀ i, i < n → bT (sA σ 54 i) (sA σ 2 i)
def CWo (W : Wd) (f : Nat → Int32) (σ : Sg) : Prop := WO W ∧ OK W f ∧ CW W false σ ∧ CC W σ ∧ FR W false σ f ∧ CR σ (sB σ 0) (wV W)
def MWo (W : Wd) (f : Nat → Int32) (σ : Sg) : Prop := WO W ∧ OK W f ∧ MW W σ ∧ Lv W (sA σ 51) f ∧ MR σ (wV W)
def Wo (W : Wd) (f : Nat → Int32) (σ : Sg) : Prop := CWo W f σ ∧ MWo W f σ ∧ sB σ 3 = false ∧ sB σ 2 = !sB σ 0
def To (σ : Sg) : Prop := ∃ l : List Int64, l.length ≤ 9 ∧ TD σ l ∧ MD σ l
def Go (σ : Sg) : Prop := ∃ m, m ≤ 12 ∧ sI σ 2562 = nI m ∧ sI σ 3236 = nI m ∧ ∀ i, i < m → sA σ 41 i = sA σ 68 i ∧ sA σ 42 i = sA σ 69 i ∧ (sA σ 41 i = 2 → z1 (sA σ 42 i))
def Pa (W : Wd) (σ : Sg) : Prop := ∃ x m, x < 13 ∧ m ≤ 12 ∧ sI σ 2370 = nI x ∧ sI σ 2371 = nI m ∧ sI σ 3223 = nI m ∧ ∀ j, j < m → ∃ g, OK W g ∧ Lv W (cS (sA σ 38) (44 * ((x + 12 - j) % 13))) g ∧ Lv W (fun i => sA σ 60 (44 * (m - 1 - j) + i)) g
def Ke (W : Wd) (k : Nat) (σ : Sg) : Prop := ∃ c, c ≤ k ∧ sI σ 3239 = nI c ∧ ∀ i, i < 2 → z1 (sA σ 72 i) ∧ (sA σ 72 i = 1 → ∃ e, e ≤ c ∧ sA σ 73 i = nI e) ∧ ((sA σ 39 i = 0 ∧ ¬ (sA σ 72 i = 1 ∧ sA σ 73 i = nI c)) ∨ (sA σ 39 i = 1 ∧ sA σ 72 i = 1 ∧ sA σ 73 i = nI c ∧ ∃ g, OK W g ∧ Lv W (cS (sA σ 38) (44 * (13 + i))) g ∧ Lv W (fun j => sA σ 71 (44 * i + j)) g))
def INV (k : Nat) (σ : Sg) : Prop := ∃ W f, Wo W f σ ∧ Tx σ ∧ To σ ∧ Go σ ∧ Pa W σ ∧ Ke W k σ
section INVS
variable {W : Wd} {f : Nat → Int32} {σ τ : Sg} {K : List Nat} {k : Nat}
theorem Tx.ag (h : Tx σ) (g : Ag K σ τ) (hk : dj K [65, 3207, 10002, 10054] = true) : Tx τ := by
  have a0 := g.1 65 (dj_m hk (by decide))
  have a1 := g.1 3207 (dj_m hk (by decide))
  have a2 := g.2.1 2 (dj_m hk (by decide))
  have a3 := g.2.1 54 (dj_m hk (by decide))
  unfold Tx; rw [a0, a1, a2, a3]; exact h
theorem TD.ag {l : List Int64} (h : TD σ l) (g : Ag K σ τ) (hk : dj K [2817, 20045] = true) : TD τ l := by
  have a0 := g.1 2817 (dj_m hk (by decide))
  have a1 := g.2.2.1 45 (dj_m hk (by decide))
  unfold TD; rw [a0, a1]; exact h
theorem MD.ag {l : List Int64} (h : MD σ l) (g : Ag K σ τ) (hk : dj K [3209, 20055] = true) : MD τ l := by
  have a0 := g.1 3209 (dj_m hk (by decide))
  have a1 := g.2.2.1 55 (dj_m hk (by decide))
  unfold MD; rw [a0, a1]; exact h
theorem To.ag (h : To σ) (g : Ag K σ τ) (hk : dj K [2817, 20045] = true) (hk2 : dj K [3209, 20055] = true) : To τ := by
  obtain ⟨l, h1, h2, h3⟩ := h
  exact ⟨l, h1, h2.ag g hk, h3.ag g hk2⟩
theorem Go.ag (h : Go σ) (g : Ag K σ τ) (hk : dj K [2562, 3236, 10041, 10042, 10068, 10069] = true) : Go τ := by
  have a0 := g.1 2562 (dj_m hk (by decide))
  have a1 := g.1 3236 (dj_m hk (by decide))
  have a2 := g.2.1 41 (dj_m hk (by decide))
  have a3 := g.2.1 42 (dj_m hk (by decide))
  have a4 := g.2.1 68 (dj_m hk (by decide))
  have a5 := g.2.1 69 (dj_m hk (by decide))
  unfold Go; rw [a0, a1, a2, a3, a4, a5]; exact h
theorem Pa.ag (h : Pa W σ) (g : Ag K σ τ) (hk : dj K [2370, 2371, 3223, 10038, 10060] = true) : Pa W τ := by
  have a0 := g.1 2370 (dj_m hk (by decide))
  have a1 := g.1 2371 (dj_m hk (by decide))
  have a2 := g.1 3223 (dj_m hk (by decide))
  have a3 := g.2.1 38 (dj_m hk (by decide))
  have a4 := g.2.1 60 (dj_m hk (by decide))
  unfold Pa; rw [a0, a1, a2, a3, a4]; exact h
theorem Ke.ag (h : Ke W k σ) (g : Ag K σ τ) (hk : dj K [3239, 10038, 10039, 10071, 10072, 10073] = true) : Ke W k τ := by
  have a0 := g.1 3239 (dj_m hk (by decide))
  have a1 := g.2.1 38 (dj_m hk (by decide))
  have a2 := g.2.1 39 (dj_m hk (by decide))
  have a3 := g.2.1 71 (dj_m hk (by decide))
  have a4 := g.2.1 72 (dj_m hk (by decide))
  have a5 := g.2.1 73 (dj_m hk (by decide))
  unfold Ke; rw [a0, a1, a2, a3, a4, a5]; exact h
theorem Ke.mono (h : Ke W k σ) : Ke W (k + 1) σ := by
  obtain ⟨c, h1, h2⟩ := h
  exact ⟨c, by omega, h2⟩
theorem CWo.ag (h : CWo W f σ) (g : Ag K σ τ) (hk : dj K (kFR false ++ kCW false ++ [193, 10004, 30000] ++ kCR false ++ kCR true) = true) : CWo W f τ := by
  have sub : ∀ L, L.all (fun x => (kFR false ++ kCW false ++ [193, 10004, 30000] ++ kCR false ++ kCR true).contains x) = true → dj K L = true := by
    intro L hL
    refine List.all_eq_true.mpr (fun x hx => ?_)
    have h1 := List.all_eq_true.mp hL x hx
    have h2 := dj_m hk (List.contains_iff_mem.mp h1)
    show (!K.contains x) = true
    rw [h2]; rfl
  obtain ⟨h1, h2, h3, h4, h5, h6⟩ := h
  have e : sB τ 0 = sB σ 0 := g.2.2.2.1 0 (dj_m hk (by decide))
  refine ⟨h1, h2, h3.ag g (sub _ (by decide)), h4.ag g (sub _ (by decide)), h5.ag g (sub _ (by decide)), ?_⟩
  rw [e]
  exact h6.ag g (sub _ (by cases sB σ 0 <;> decide))
theorem MWo.ag (h : MWo W f σ) (g : Ag K σ τ) (hk : dj K [3201, 3202, 3203, 10052, 10053, 10051, 3219, 10057, 10058, 30003] = true) : MWo W f τ := by
  have sub : ∀ L, L.all (fun x => [3201, 3202, 3203, 10052, 10053, 10051, 3219, 10057, 10058, 30003].contains x) = true → dj K L = true := by
    intro L hL
    refine List.all_eq_true.mpr (fun x hx => ?_)
    have h1 := List.all_eq_true.mp hL x hx
    have h2 := dj_m hk (List.contains_iff_mem.mp h1)
    show (!K.contains x) = true
    rw [h2]; rfl
  obtain ⟨h1, h2, h3, h4, h5⟩ := h
  refine ⟨h1, h2, h3.ag g (sub _ (by decide)), ?_, h5.ag g (sub _ (by decide))⟩
  rw [g.2.1 51 (dj_m hk (by decide))]; exact h4
/-- what questions write -/
def kQc : List Nat := [10024, 10025, 10026, 10027, 10028, 10029, 10030, 10031, 10032, 10033, 10034, 10035, 10036, 1474, 1475, 1476, 1477, 1486, 30001, 10014, 10015, 10016, 10017, 10022, 10008, 10009, 10048, 10049, 2817, 20045, 2752]
def kQm : List Nat := [10059, 40000, 3212, 3213, 3214, 3215, 3220, 10063, 10064, 10065, 10062, 3229, 3230, 3209, 20055, 3210, 10067, 3233, 10070, 3238]
theorem INV.keep {K : List Nat} (h : INV k σ) (g : Ag K σ τ) (ht : To τ) (h1 : dj K (kFR false ++ kCW false ++ [193, 10004, 30000] ++ kCR false ++ kCR true) = true) (h2 : dj K [3201, 3202, 3203, 10052, 10053, 10051, 3219, 10057, 10058, 30003] = true) (h3 : dj K [30002, 30003, 30000] = true) (h4 : dj K [65, 3207, 10002, 10054] = true) (h5 : dj K [2562, 3236, 10041, 10042, 10068, 10069] = true) (h6 : dj K [2370, 2371, 3223, 10038, 10060] = true) (h7 : dj K [3239, 10038, 10039, 10071, 10072, 10073] = true) : INV (k + 1) τ := by
  obtain ⟨W, f, ⟨a1, a2, a3, a4⟩, a5, a6, a7, a8, a9⟩ := h
  refine ⟨W, f, ⟨a1.ag g h1, a2.ag g h2, ?_, ?_⟩, a5.ag g h4, ht, a7.ag g h5, a8.ag g h6, (a9.ag g h7).mono⟩
  · rw [g.2.2.2.1 3 (dj_m h3 (by decide))]; exact a3
  · rw [g.2.2.2.1 2 (dj_m h3 (by decide)), g.2.2.2.1 0 (dj_m h3 (by decide))]; exact a4
/-- a question's row: none where it tells nothing -/
def TDx (σ τ : Sg) (o : Option (List Int64)) : Prop := match o with
  | none => sI τ 2817 = sI σ 2817 ∧ sL τ 45 = sL σ 45
  | some l => TD τ l
def MDx (σ τ : Sg) (o : Option (List Int64)) : Prop := match o with
  | none => sI τ 3209 = sI σ 3209 ∧ sL τ 55 = sL σ 55
  | some l => MD τ l
def lenOk (o : Option (List Int64)) : Prop := match o with
  | none => True
  | some l => l.length ≤ 9
theorem To.x (h : To σ) {ρ : Sg} {o : Option (List Int64)} (h1 : TDx σ τ o) (h2 : MDx τ ρ o) (hl : lenOk o) (e1 : sI τ 3209 = sI σ 3209 ∧ sL τ 55 = sL σ 55) (e2 : sI ρ 2817 = sI τ 2817 ∧ sL ρ 45 = sL τ 45) : To ρ := by
  cases o with
  | none =>
    obtain ⟨l, k1, k2, k3⟩ := h
    refine ⟨l, k1, ?_, ?_⟩
    · unfold TD; rw [e2.1, e2.2, h1.1, h1.2]; exact k2
    · unfold MD; rw [h2.1, h2.2, e1.1, e1.2]; exact k3
  | some l =>
    refine ⟨l, hl, ?_, h2⟩
    unfold TD; rw [e2.1, e2.2]; exact h1
theorem q_op {D jc jm : Nat} {Lc Lm : ax_L} (spec : Wd → (Nat → Int32) → Int32 × Option (List Int64)) (hl : ∀ W f, WO W → OK W f → lenOk (spec W f).2)
    (hc : ∀ d σ W f, D ≤ d → CWo W f σ → RnI (ev d jc 0 Lc [] (mkH σ)) (fun τ x => Ag kQc σ τ ∧ x = (spec W f).1 ∧ TDx σ τ (spec W f).2))
    (hm : ∀ d σ W f, D ≤ d → MWo W f σ → RnI (ev d jm 0 Lm [] (mkH σ)) (fun τ x => Ag kQm σ τ ∧ x = (spec W f).1 ∧ MDx σ τ (spec W f).2))
    {d : Nat} (hd : D ≤ d) (h : INV k σ) : OpR (INV (k + 1)) d jc jm Lc Lm σ := by
  have h0 := h
  obtain ⟨W, f, ⟨a1, a2, a3, a4⟩, a5, a6, a7, a8, a9⟩ := h
  obtain ⟨σ1, r, c1, c2, c3, c4⟩ := hc d σ W f hd a1
  obtain ⟨σ2, r2, m1, m2, m3, m4⟩ := hm d σ1 W f hd (a2.ag c2 (by decide))
  have e : r2 = r := m3.trans c3.symm
  subst e
  refine ⟨σ1, σ2, r2, c1, m1, c2.2.2.2.2.2.2, m2.2.2.2.2.2.2.trans c2.2.2.2.2.2.2, m2.2.2.2.2.2.1.trans c2.2.2.2.2.2.1, ?_⟩
  have g : Ag (kQc ++ kQm) σ σ2 := (c2.wk (by decide)).tr (m2.wk (by decide))
  exact h0.keep g (a6.x c4 m4 (hl W f a1.1 a1.2.1) ⟨c2.1 3209 rfl, c2.2.2.1 55 rfl⟩ ⟨m2.1 2817 rfl, m2.2.2.1 45 rfl⟩) (by decide) (by decide) (by decide) (by decide) (by decide) (by decide) (by decide)
end INVS
