/-! Questions: nearest, locks -/
section Q7
variable {d : Nat} {σ : Sg} {W : Wd} {f g : Nat → Int32} {x1 x2 : Int32}
/-! nearest -/
abbrev Ne : Type := Option (Int32 × Nat × Nat)
def neT (g : Nat → Int32) (a b : Nat) (s : Ne) : Ne := match s with
  | none => some (asF (g a - g b), a, b)
  | some q => if q.1 ≤ asF (g a - g b) then some q else some (asF (g a - g b), a, b)
def neI (g : Nat → Int32) (a k : Nat) (s : Ne) : Ne := accA (fun j s => neT g a (a + 1 + j) s) k s
def neA (g : Nat → Int32) (nb k : Nat) : Ne := accA (fun a s => neI g a (nb - (a + 1)) s) k none
def neV (s : Ne) : Int32 × Option (List Int64) := match s with
  | none => (-2, none)
  | some q => (q.1, some [(nI q.2.1).toInt64, (nI q.2.2).toInt64])
def neS (x1 : Int32) (W : Wd) (f : Nat → Int32) : Int32 × Option (List Int64) := if inF x1 0 99 = 0 then (-1, none) else neV (neA (itF W f (Int32.toNatClampNeg x1)).1 (wb W) (wb W))
def ne1 (s : Ne) : Int32 := match s with
  | none => 2147483647
  | some q => q.1
def ne2 (s : Ne) : Int32 := match s with
  | none => 1000000
  | some q => q.1
def ne3 (s : Ne) : Int32 := match s with
  | none => -1
  | some q => nI q.2.1
def ne4 (s : Ne) : Int32 := match s with
  | none => -1
  | some q => nI q.2.2
def neR (s : Ne) : Option (List Int64) := match s with
  | none => none
  | some q => some [(nI q.2.1).toInt64, (nI q.2.2).toInt64]
/-- how far apart at most -/
def neB (s : Ne) : Prop := match s with
  | none => True
  | some q => ∃ j, j < 30 ∧ q.1 = nI j
theorem ne_some {n : Nat} (hn : 2 ≤ n) : ∀ k, ∃ q, neA g n (k + 1) = some q
  | 0 => by
    show ∃ q, neI g 0 (n - 1) none = some q
    obtain ⟨m, rfl⟩ : ∃ m, n = m + 2 := ⟨n - 2, by omega⟩
    show ∃ q, neT g 0 (0 + 1 + m) (neI g 0 m none) = some q
    cases neI g 0 m none with
    | none => exact ⟨_, rfl⟩
    | some q => unfold neT; dsimp only; split <;> exact ⟨_, rfl⟩
  | k + 1 => by
    obtain ⟨q, hq⟩ := ne_some hn k
    show ∃ q, neI g (k + 1) (n - (k + 1 + 1)) (neA g n (k + 1)) = some q
    rw [hq]
    refine accA_inv (P := fun (s : Ne) => ∃ q, s = some q) _ ⟨q, rfl⟩ (fun j s _ hs => ?_)
    obtain ⟨q2, rfl⟩ := hs
    unfold neT; dsimp only; split <;> exact ⟨_, rfl⟩
theorem as_cell (hW : WO W) (hg : OK W g) {a b : Nat} (ha : a < wb W) (hb : b < wb W) : ∃ j, j < 30 ∧ asF (g a - g b) = nI j := by
  obtain ⟨c, c1, c2, c3⟩ := ix_of (hg.1 a ha).1
  obtain ⟨e, e1, e2, e3⟩ := ix_of (hg.1 b hb).1
  have := hW.2.2.2.1
  rw [c3, e3]
  exact as_lt (by omega) (by omega) (by decide)
theorem neT_B (hW : WO W) (hg : OK W g) {a b : Nat} (ha : a < wb W) (hb : b < wb W) {s : Ne} (hs : neB s) : neB (neT g a b s) := by
  obtain ⟨j, j1, j2⟩ := as_cell hW hg ha hb
  cases s with
  | none => exact ⟨j, j1, j2⟩
  | some q => unfold neT; dsimp only; split
              · exact hs
              · exact ⟨j, j1, j2⟩
theorem C_nearest (hd : 400 ≤ d) (h : CWo W f σ) : RnI (ev d 241 0 [(0, .ref 0), (1, .int x1)] [] (mkH σ)) (fun τ x => Ag kQc σ τ ∧ x = (neS x1 W f).1 ∧ TDx σ τ (neS x1 W f).2) := by
  obtain ⟨d, rfl⟩ : ∃ e, d = e + 10 := ⟨d - 10, by omega⟩
  have w4 := h.1.1
  unfold neS
  rw [g_Main_nearest_0, c_Main_nearest_4 K_in, g_Main_nearest_7]
  by_cases hi : inF x1 0 99 = 0
  · rw [if_pos hi, if_pos hi, m1]; exact RnI.mk ⟨Ag.rf, rfl, rfl, rfl⟩
  · obtain ⟨n, n1, n2, rfl⟩ := in_n hi (a := 0) (b := 99) rfl rfl (by decide) (by decide)
    rw [if_neg hi, if_neg hi, show sI σ 325 = nI (wb W) from h.2.2.1.1, cln (n := n) (by omega), m2]
    by_cases hb : 2 ≤ wb W
    · obtain ⟨τ, k1, k2, k3, k4⟩ := K_ahead (d := d + 2) h (xn := nI n) rfl (by omega)
      have k25 : TDn σ τ := by
        obtain ⟨τ1, i1, i2, i3, i4⟩ := K_copy (d := d + 7) h
        obtain ⟨τ2, y, j1, j2, j3, j4⟩ := K_pass (d := d + 2) i3 (n := n) (xn := nI n) rfl (by omega)
        have e : ev (d + 9) 238 0 [(0, .ref 0), (1, .int (nI n))] [] (mkH σ) = some (mkH τ2, some (some (.ref 23))) := by
          rw [g_Main_ahead_0, c_Main_ahead_8 i1, g_Main_ahead_11, c_Main_ahead_16 j1, g_Main_ahead_19]
        rw [k1] at e
        have e1 : mkH τ = mkH τ2 := (Prod.mk.inj (Option.some.inj e)).1
        have e2 : sI τ 2817 = sI τ2 2817 := by
          have := congrArg (fun H : ax_H => H.1[44]?) e1
          have := Option.some.inj this
          have := Sum.inr.inj this
          have := (Prod.mk.inj this).2
          injection this with _ t1
          injection t1 with t2 _
          injection t2
        have e3 : sL τ 45 = sL τ2 45 := by
          have := congrArg (fun H : ax_H => H.1[45]?) e1
          have := Option.some.inj this
          have := Sum.inl.inj this
          have := (Prod.mk.inj (Prod.mk.inj this).2).2
          exact Sum.inl.inj (Sum.inr.inj this)
        have t := (tdn i2 rfl).tr (tdn j2 rfl)
        exact ⟨e2.trans t.1, e3.trans t.2⟩
      rw [if_pos (show (2 : Int32) ≤ nI (wb W) from nI_le (a := 2) (b := wb W) hb (by omega)), c_Main_nearest_28 k1, g_Main_nearest_31]
      have hok := it_ok h.1 h.2.1 n
      generalize (itF W f n).1 = g at k3 hok
      obtain ⟨q, hq⟩ := ne_some (g := g) hb (wb W - 1)
      rw [show wb W - 1 + 1 = wb W by omega] at hq
      refine lpG (α := Sg) (n := wb W) (P := fun k ρ => Ag kQc σ ρ ∧ TR W g ρ ∧ TDx σ ρ (neR (neA g (wb W) k)) ∧ neB (neA g (wb W) k))
        (f := fun k ρ => ev (d + 10) 241 39 [(0, .ref 0), (1, .int (nI n)), (2, .ref (fo true)), (3, .int (ne1 (neA g (wb W) k))), (4, .int (nI k))] [] (mkH ρ)) (Q := fun o => RnI o _) ?_ ?_ (wb W) 0 τ (by omega) ⟨k2, k3, k25, True.intro⟩
      · rintro a ρ ha ⟨p1, p2, p3, p4⟩ nx
        show RnI (ev (d + 10) 241 39 [(0, .ref 0), (1, .int (nI n)), (2, .ref (fo true)), (3, .int (ne1 (neA g (wb W) a))), (4, .int (nI a))] [] (mkH ρ)) _
        rw [g_Main_nearest_39, p2.2.2.2.1.1, if_neg (nI_ge ha (by omega)), nI_1]
        refine lpG (α := Sg) (n := wb W - (a + 1)) (P := fun j ρ => Ag kQc σ ρ ∧ TR W g ρ ∧ TDx σ ρ (neR (neI g a j (neA g (wb W) a))) ∧ neB (neI g a j (neA g (wb W) a)))
          (f := fun j ρ => ev (d + 10) 241 54 [(0, .ref 0), (1, .int (nI n)), (2, .ref (fo true)), (3, .int (ne1 (neI g a j (neA g (wb W) a)))), (4, .int (nI a)), (5, .int (nI (a + 1 + j)))] [] (mkH ρ)) (Q := fun o => RnI o _) ?_ ?_ (wb W - (a + 1)) 0 ρ (by omega) ⟨p1, p2, p3, p4⟩
        · rintro j ρ hj ⟨r1, r2, r3, r4⟩ nx2
          show RnI (ev (d + 10) 241 54 [(0, .ref 0), (1, .int (nI n)), (2, .ref (fo true)), (3, .int (ne1 (neI g a j (neA g (wb W) a)))), (4, .int (nI a)), (5, .int (nI (a + 1 + j)))] [] (mkH ρ)) _
          have es : neI g a (j + 1) (neA g (wb W) a) = neT g a (a + 1 + j) (neI g a j (neA g (wb W) a)) := rfl
          have nx2 : ∀ ρ2, Ag kQc σ ρ2 ∧ TR W g ρ2 ∧ TDx σ ρ2 (neR (neI g a (j + 1) (neA g (wb W) a))) ∧ neB (neI g a (j + 1) (neA g (wb W) a)) → RnI (ev (d + 10) 241 54 [(0, .ref 0), (1, .int (nI n)), (2, .ref (fo true)), (3, .int (ne1 (neI g a (j + 1) (neA g (wb W) a)))), (4, .int (nI a)), (5, .int (nI (a + 1 + (j + 1))))] [] (mkH ρ2)) _ := nx2
          rw [es] at nx2
          have hb2 : a + 1 + j < wb W := by omega
          have r5 := neT_B h.1 hok ha hb2 r4
          obtain ⟨jj, jj1, jj2⟩ := as_cell h.1 hok ha hb2
          rw [g_Main_nearest_54, r2.2.2.2.1.1, if_neg (nI_ge hb2 (by omega)), c_Main_nearest_68 (F_apart (w := true) (by omega) (by omega)), g_Main_nearest_71, (r2.2.2.1.1 a ha).1, (r2.2.2.1.1 _ hb2).1, nI_1, show a + 1 + j + 1 = a + 1 + (j + 1) by omega]
          generalize hss : neI g a j (neA g (wb W) a) = s at nx2 r3 r4 r5
          have take : ∀ (Q : Sg → Int32 → Prop), (∀ ρ2, Ag kQc σ ρ2 ∧ TR W g ρ2 ∧ TDx σ ρ2 (some [(nI a).toInt64, (nI (a + 1 + j)).toInt64]) → RnI (ev (d + 10) 241 54 [(0, .ref 0), (1, .int (nI n)), (2, .ref (fo true)), (3, .int (asF (g a - g (a + 1 + j)))), (4, .int (nI a)), (5, .int (nI (a + 1 + (j + 1))))] [] (mkH ρ2)) Q) → RnI (ev (d + 10) 241 92 [(0, .ref 0), (1, .int (nI n)), (2, .ref (fo true)), (3, .int (asF (g a - g (a + 1 + j)))), (4, .int (nI a)), (5, .int (nI (a + 1 + j))), (6, .int (asF (g a - g (a + 1 + j))))] [.long (Int32.toInt64 (nI (a + 1 + j))), .long (Int32.toInt64 (nI a)), .ref 44] (mkH ρ)) Q := by
            intro Q nx3
            obtain ⟨ρ2, t1, t2, t3⟩ := T_two (d := d + 7) (σ := ρ) (x := (nI a).toInt64) (y := (nI (a + 1 + j)).toInt64)
            rw [c_Main_nearest_92 t1, g_Main_nearest_95, nI_1, show a + 1 + j + 1 = a + 1 + (j + 1) by omega]
            exact nx3 ρ2 ⟨r1.tr (t2.wk rfl), r2.agH t2 rfl, t3⟩
          cases s with
          | none =>
            rw [if_neg (show ¬ ne1 none ≤ asF (g a - g (a + 1 + j)) by
              rw [jj2]
              show ¬ (2147483647 : Int32) ≤ nI jj
              rw [Int32.le_iff_toInt_le, nI_toInt (by omega), show (2147483647 : Int32).toInt = 2147483647 from by decide]
              omega)]
            exact take _ (fun ρ2 hh => nx2 ρ2 ⟨hh.1, hh.2.1, hh.2.2, r5⟩)
          | some q2 =>
            unfold neT at nx2 r5
            dsimp only at nx2 r5
            by_cases c : q2.1 ≤ asF (g a - g (a + 1 + j))
            · rw [if_pos c] at nx2 r5
              rw [if_pos (show ne1 (some q2) ≤ asF (g a - g (a + 1 + j)) from c)]
              exact nx2 ρ ⟨r1, r2, r3, r5⟩
            · rw [if_neg c] at nx2 r5
              rw [if_neg (show ¬ ne1 (some q2) ≤ asF (g a - g (a + 1 + j)) from c)]
              exact take _ (fun ρ2 hh => nx2 ρ2 ⟨hh.1, hh.2.1, hh.2.2, r5⟩)
        · rintro ρ ⟨r1, r2, r3, r4⟩
          show RnI (ev (d + 10) 241 54 [(0, .ref 0), (1, .int (nI n)), (2, .ref (fo true)), (3, .int (ne1 (neI g a (wb W - (a + 1)) (neA g (wb W) a)))), (4, .int (nI a)), (5, .int (nI (a + 1 + (wb W - (a + 1)))))] [] (mkH ρ)) _
          rw [g_Main_nearest_54, r2.2.2.2.1.1, if_pos (nI_le (by omega) (by omega)), nI_1]
          exact nx ρ ⟨r1, r2, r3, r4⟩
      · rintro ρ ⟨p1, p2, p3, p4⟩
        show RnI (ev (d + 10) 241 39 [(0, .ref 0), (1, .int (nI n)), (2, .ref (fo true)), (3, .int (ne1 (neA g (wb W) (wb W)))), (4, .int (nI (wb W)))] [] (mkH ρ)) _
        rw [g_Main_nearest_39, p2.2.2.2.1.1, if_pos (nI_le (Nat.le_refl _) (by omega))]
        rw [hq] at p3 ⊢
        exact RnI.mk ⟨p1, rfl, p3⟩
    · rw [if_neg (show ¬ (2 : Int32) ≤ nI (wb W) from nI_ge (a := wb W) (b := 2) (by omega) (by decide))]
      have e : neA (itF W f n).1 (wb W) (wb W) = none := by
        generalize wb W = m at hb
        match m, hb with
        | 0, _ => rfl
        | 1, _ => rfl
        | m + 2, hb => exact absurd (by omega) hb
      rw [e]
      exact RnI.mk ⟨Ag.rf, rfl, rfl, rfl⟩
theorem M_nearest (hd : 400 ≤ d) (h : MWo W f σ) : RnI (ev d 80 0 [(0, .ref 50), (1, .int x1)] [] (mkH σ)) (fun τ x => Ag kQm σ τ ∧ x = (neS x1 W f).1 ∧ MDx σ τ (neS x1 W f).2) := by
  obtain ⟨d, rfl⟩ : ∃ e, d = e + 10 := ⟨d - 10, by omega⟩
  have w4 := h.1.1
  unfold neS
  have h1 : MWo W f (uI σ 3210 0) := h.nu rfl
  have a0 : Ag kQm σ (uI σ 3210 0) := Ag.I Ag.rf rfl
  rw [g_Model_nearest_0, c_Model_nearest_9 N_inF, g_Model_nearest_12]
  by_cases hi : inF x1 0 99 = 0
  · rw [if_pos hi, if_pos hi, m1]; exact RnI.mk ⟨a0, rfl, rfl, rfl⟩
  · obtain ⟨n, n1, n2, rfl⟩ := in_n hi (a := 0) (b := 99) rfl rfl (by decide) (by decide)
    obtain ⟨τ, k1, k2, k3, k4⟩ := N_thenW (d := d + 3) (by omega) h1 (xn := nI n) rfl (by omega)
    have a2 : Ag kQm σ τ := a0.tr (k2.wk rfl)
    have d2 : MDn σ τ := ⟨k2.1 3209 rfl, k2.2.2.1 55 rfl⟩
    rw [if_neg hi, if_neg hi, c_Model_nearest_19 k1, g_Model_nearest_22, cln (n := n) (by omega), m1]
    have hok := it_ok h.1 h.2.1 n
    generalize (itF W f n).1 = g at k3 hok
    refine lpG (α := Sg) (n := wb W) (P := fun k ρ => ρ = τ ∧ neB (neA g (wb W) k))
      (f := fun k ρ => ev (d + 10) 80 34 [(0, .ref 50), (1, .int (nI n)), (2, .int (ne2 (neA g (wb W) k))), (3, .int (ne3 (neA g (wb W) k))), (4, .int (ne4 (neA g (wb W) k))), (5, .int (nI k))] [] (mkH ρ)) (Q := fun o => RnI o _) ?_ ?_ (wb W) 0 τ (by omega) ⟨rfl, True.intro⟩
    · rintro a ρ ha ⟨hρ, p4⟩ nx
      subst hρ
      show RnI (ev (d + 10) 80 34 [(0, .ref 50), (1, .int (nI n)), (2, .int (ne2 (neA g (wb W) a))), (3, .int (ne3 (neA g (wb W) a))), (4, .int (ne4 (neA g (wb W) a))), (5, .int (nI a))] [] (mkH ρ)) _
      rw [g_Model_nearest_34, k4.2.2.1.1, if_neg (nI_ge ha (by omega)), nI_1]
      refine lpG (α := Sg) (n := wb W - (a + 1)) (P := fun j ρ2 => ρ2 = ρ ∧ neB (neI g a j (neA g (wb W) a)))
        (f := fun j ρ2 => ev (d + 10) 80 49 [(0, .ref 50), (1, .int (nI n)), (2, .int (ne2 (neI g a j (neA g (wb W) a)))), (3, .int (ne3 (neI g a j (neA g (wb W) a)))), (4, .int (ne4 (neI g a j (neA g (wb W) a)))), (5, .int (nI a)), (6, .int (nI (a + 1 + j)))] [] (mkH ρ2)) (Q := fun o => RnI o _) ?_ ?_ (wb W - (a + 1)) 0 ρ (by omega) ⟨rfl, p4⟩
      · rintro j ρ2 hj ⟨hρ2, r4⟩ nx2
        subst hρ2
        show RnI (ev (d + 10) 80 49 [(0, .ref 50), (1, .int (nI n)), (2, .int (ne2 (neI g a j (neA g (wb W) a)))), (3, .int (ne3 (neI g a j (neA g (wb W) a)))), (4, .int (ne4 (neI g a j (neA g (wb W) a)))), (5, .int (nI a)), (6, .int (nI (a + 1 + j)))] [] (mkH ρ2)) _
        have es : neI g a (j + 1) (neA g (wb W) a) = neT g a (a + 1 + j) (neI g a j (neA g (wb W) a)) := rfl
        have hb2 : a + 1 + j < wb W := by omega
        have r5 := neT_B h.1 hok ha hb2 r4
        obtain ⟨jj, jj1, jj2⟩ := as_cell h.1 hok ha hb2
        have nx2 : RnI (ev (d + 10) 80 49 [(0, .ref 50), (1, .int (nI n)), (2, .int (ne2 (neT g a (a + 1 + j) (neI g a j (neA g (wb W) a))))), (3, .int (ne3 (neT g a (a + 1 + j) (neI g a j (neA g (wb W) a))))), (4, .int (ne4 (neT g a (a + 1 + j) (neI g a j (neA g (wb W) a))))), (5, .int (nI a)), (6, .int (nI (a + 1 + (j + 1))))] [] (mkH ρ2)) _ := nx2 ρ2 ⟨rfl, by rw [es]; exact r5⟩
        have eas : (if 0 ≤ g a - g (a + 1 + j) then g a - g (a + 1 + j) else 0 - (g a - g (a + 1 + j))) = asF (g a - g (a + 1 + j)) := rfl
        rw [g_Model_nearest_49, k4.2.2.1.1, if_neg (nI_ge hb2 (by omega)), ixn (k := a) (by omega) (by decide), cond_true, ixn (k := a + 1 + j) (by omega) (by decide), cond_true, cln (n := a) (by omega), cln (n := a + 1 + j) (by omega), (k3.1 a ha).1, (k3.1 _ hb2).1, eas, nI_1, show a + 1 + j + 1 = a + 1 + (j + 1) by omega]
        generalize hss : neI g a j (neA g (wb W) a) = s at nx2
        cases s with
        | none =>
          rw [if_pos (show asF (g a - g (a + 1 + j)) < ne2 none by
            rw [jj2]
            show nI jj < (1000000 : Int32)
            rw [Int32.lt_iff_toInt_lt, nI_toInt (by omega), show (1000000 : Int32).toInt = 1000000 from by decide]
            omega)]
          exact nx2
        | some q2 =>
          unfold neT at nx2
          dsimp only at nx2
          by_cases c : q2.1 ≤ asF (g a - g (a + 1 + j))
          · rw [if_pos c] at nx2
            rw [if_neg (show ¬ asF (g a - g (a + 1 + j)) < ne2 (some q2) from Int32.not_lt.mpr c)]
            exact nx2
          · rw [if_neg c] at nx2
            rw [if_pos (show asF (g a - g (a + 1 + j)) < ne2 (some q2) from Int32.not_le.mp c)]
            exact nx2
      · rintro ρ2 ⟨hρ2, r4⟩
        subst hρ2
        show RnI (ev (d + 10) 80 49 [(0, .ref 50), (1, .int (nI n)), (2, .int (ne2 (neI g a (wb W - (a + 1)) (neA g (wb W) a)))), (3, .int (ne3 (neI g a (wb W - (a + 1)) (neA g (wb W) a)))), (4, .int (ne4 (neI g a (wb W - (a + 1)) (neA g (wb W) a)))), (5, .int (nI a)), (6, .int (nI (a + 1 + (wb W - (a + 1)))))] [] (mkH ρ2)) _
        rw [g_Model_nearest_49, k4.2.2.1.1, if_pos (nI_le (by omega) (by omega)), nI_1]
        exact nx ρ2 ⟨rfl, r4⟩
    · rintro ρ ⟨hρ, p4⟩
      subst hρ
      show RnI (ev (d + 10) 80 34 [(0, .ref 50), (1, .int (nI n)), (2, .int (ne2 (neA g (wb W) (wb W)))), (3, .int (ne3 (neA g (wb W) (wb W)))), (4, .int (ne4 (neA g (wb W) (wb W)))), (5, .int (nI (wb W)))] [] (mkH ρ)) _
      rw [g_Model_nearest_34, k4.2.2.1.1, if_pos (nI_le (Nat.le_refl _) (by omega)), m2]
      generalize neA g (wb W) (wb W) = s at p4
      cases s with
      | none =>
        rw [if_pos (show ne2 none = 1000000 from rfl)]
        exact RnI.mk ⟨a2, rfl, d2⟩
      | some q =>
        obtain ⟨j, j1, j2⟩ := p4
        obtain ⟨ρ2, t1, t2, t3⟩ := N_tell1 (d := d + 8) (σ := ρ) (x := (nI q.2.1).toInt64)
        obtain ⟨ρ3, u1, u2, u3⟩ := N_tell2 (d := d + 8) (y := (nI q.2.2).toInt64) t3
        rw [if_neg (show ¬ ne2 (some q) = 1000000 by
          show ¬ q.1 = 1000000
          rw [j2]
          intro z
          have := congrArg Int32.toInt z
          rw [nI_toInt (by omega), show (1000000 : Int32).toInt = 1000000 from by decide] at this
          omega), show ne3 (some q) = nI q.2.1 from rfl, c_Model_nearest_127 t1, g_Model_nearest_130, show ne4 (some q) = nI q.2.2 from rfl, c_Model_nearest_134 u1, g_Model_nearest_137]
        exact RnI.mk ⟨(a2.tr (t2.wk rfl)).tr (u2.wk rfl), rfl, u3⟩
/-! locks -/
abbrev Lk : Type := Int32 × Int32 × Int32
def lkG (hd K c : Int32) (s : Lk) : Lk := if K ≤ hd then (s.1, s.2.1, mxF s.2.2 K) else (s.1 + 1, (if s.1 = 0 then c else s.2.1), mxF s.2.2 K)
def lkF (W : Wd) (h hd : Int32) : Nat → Int32 → Lk → Lk
  | 0, _, s => s
  | m + 1, c, s => bif ax_ix c (wc W) then lkF W h hd m (nxF c h) (lkG hd (wK W (Int32.toNatClampNeg c)) c s) else s
def Dm (W : Wd) (h : Int32) (m : Nat) (c : Int32) : Prop := ax_ix c (wc W) = true → ∃ a, c = nI a ∧ a < wc W ∧ (if h = 0 then wc W ≤ a + m else a + 1 ≤ m)
theorem Dm.s {h c : Int32} {m : Nat} (hW : WO W) (hD : Dm W h (m + 1) c) (hx : ax_ix c (wc W) = true) : Dm W h m (nxF c h) := by
  have w30 := hW.2.2.2.1
  obtain ⟨a, rfl, a1, a2⟩ := hD hx
  intro hx2
  unfold nxF at hx2 ⊢
  by_cases e : h = 0
  · rw [if_pos e] at a2 hx2 ⊢
    rw [nI_1] at hx2 ⊢
    exact ⟨a + 1, rfl, ix_n (by omega) hx2, by rw [if_pos e]; omega⟩
  · rw [if_neg e] at a2 hx2 ⊢
    cases a with
    | zero => rw [show nI 0 - 1 = -1 from by decide, ix_neg (by decide)] at hx2; cases hx2
    | succ a =>
      rw [nI_pred] at hx2 ⊢
      exact ⟨a, rfl, by omega, by rw [if_neg e]; omega⟩
theorem Dm.z {h c : Int32} (hD : Dm W h 0 c) : ax_ix c (wc W) = false := by
  cases hx : ax_ix c (wc W) with
  | false => rfl
  | true =>
    obtain ⟨a, _, a1, a2⟩ := hD hx
    split at a2 <;> omega
def Iv (n : Nat) (s : Lk) : Prop := ∃ j m, j ≤ n ∧ m < 10 ∧ s.1 = nI j ∧ s.2.2 = nI m ∧ (j = 0 → s.2.1 = -1) ∧ (0 < j → ¬ s.2.1 = -1)
theorem mx_mx {m : Nat} {K : Int32} (hm : m < 10) : mxF (nI m) (mxF 0 K) = mxF (nI m) K := by
  unfold mxF
  by_cases h : 0 < K
  · rw [if_pos h]
  · rw [if_neg h, if_neg (show ¬ nI m < 0 from nI_pos (by omega)), if_neg (fun z => by
      rw [Int32.lt_iff_toInt_lt, show (0 : Int32).toInt = 0 from by decide] at h
      rw [Int32.lt_iff_toInt_lt, nI_toInt (by omega)] at z
      omega)]
theorem Iv.s (hW : WO W) {n : Nat} {s : Lk} {hd c : Int32} (hn : n < 100) (hI : Iv n s) (hx : ax_ix c (wc W) = true) : Iv (n + 1) (lkG hd (wK W (Int32.toNatClampNeg c)) c s) := by
  obtain ⟨j, m, j1, m1, e1, e2, e3, e4⟩ := hI
  have hmx : ∃ m', m' < 10 ∧ mxF s.2.2 (wK W (Int32.toNatClampNeg c)) = nI m' := by
    rw [e2]
    rcases hW.2.2.2.2.1 _ (ix_lt hx) with k | k | ⟨i, i1, i2, k⟩
    · rw [k]; exact ⟨m, m1, if_neg (nI_pos (by omega))⟩
    · rw [k]; refine ⟨m, m1, if_neg (fun z => ?_)⟩
      rw [Int32.lt_iff_toInt_lt, nI_toInt (by omega), show (-1 : Int32).toInt = -1 from by decide] at z
      omega
    · rw [k]; unfold mxF; split
      · exact ⟨i, by omega, rfl⟩
      · exact ⟨m, m1, rfl⟩
  obtain ⟨m', h1, h2⟩ := hmx
  obtain ⟨a, _, a2, ea⟩ := ix_of hx
  unfold lkG
  split
  · exact ⟨j, m', by omega, h1, e1, h2, e3, e4⟩
  · refine ⟨j + 1, m', by omega, h1, ?_, h2, fun z => by omega, fun _ => ?_⟩
    · show s.1 + 1 = _
      rw [e1, nI_1]
    · show ¬ (if s.1 = 0 then c else s.2.1) = -1
      split
      · rw [ea]; exact nI_nm1 a2
      · rename_i hz
        refine e4 ?_
        cases j with
        | zero => exact absurd e1 hz
        | succ j => omega
def lkS (x1 : Int32) (W : Wd) (f : Nat → Int32) : Int32 × Option (List Int64) := bif ax_ix x1 (wb W) then ((lkF W (f (4 + Int32.toNatClampNeg x1)) (hoF W f (Int32.toNatClampNeg x1)) 31 (nxF (f (Int32.toNatClampNeg x1)) (f (4 + Int32.toNatClampNeg x1))) (0, -1, 0)).1, some [(lkF W (f (4 + Int32.toNatClampNeg x1)) (hoF W f (Int32.toNatClampNeg x1)) 31 (nxF (f (Int32.toNatClampNeg x1)) (f (4 + Int32.toNatClampNeg x1))) (0, -1, 0)).2.1.toInt64, (lkF W (f (4 + Int32.toNatClampNeg x1)) (hoF W f (Int32.toNatClampNeg x1)) 31 (nxF (f (Int32.toNatClampNeg x1)) (f (4 + Int32.toNatClampNeg x1))) (0, -1, 0)).2.2.toInt64]) else (-1, none)
theorem Dm.i (hW : WO W) {h c : Int32} : Dm W h 31 c := fun hx => by
  have := hW.2.2.2.1
  obtain ⟨a, a1, a2, ea⟩ := ix_of hx
  refine ⟨a, ea, a1, ?_⟩
  split <;> omega
theorem lk_out {h hd c : Int32} {m : Nat} {s : Lk} (hx : ax_ix c (wc W) = false) : lkF W h hd m c s = s := by
  cases m with
  | zero => rfl
  | succ m =>
    show (bif ax_ix c (wc W) then _ else s) = s
    rw [hx]; rfl
theorem lk_in {h hd c : Int32} {m : Nat} {s : Lk} (hx : ax_ix c (wc W) = true) : lkF W h hd (m + 1) c s = lkF W h hd m (nxF c h) (lkG hd (wK W (Int32.toNatClampNeg c)) c s) := by
  show (bif ax_ix c (wc W) then _ else s) = _
  rw [hx]; rfl
theorem lk_more (hW : WO W) {h hd : Int32} {k : Nat} : ∀ (m : Nat) (c : Int32) (s : Lk), Dm W h m c → lkF W h hd (m + k) c s = lkF W h hd m c s := by
  intro m
  induction m with
  | zero => intro c s hD; rw [lk_out hD.z, lk_out hD.z]
  | succ m ih =>
    intro c s hD
    cases hx : ax_ix c (wc W) with
    | false => rw [lk_out hx, lk_out hx]
    | true => rw [show m + 1 + k = m + k + 1 from by omega, lk_in hx, lk_in hx]; exact ih _ _ (hD.s hW hx)
def ceF (c h : Int32) (n : Nat) : Int32 := c + nI n * (if h = 0 then 1 else -1)
theorem ce_s {c h : Int32} {n : Nat} : ceF c h (n + 1) = nxF (ceF c h n) h := by
  unfold ceF
  rw [← nI_1, Int32.add_mul, Int32.one_mul, ← Int32.add_assoc, nx_add]
theorem ce_1 {c h : Int32} : ceF c h 1 = nxF c h := by
  unfold ceF
  rw [show nI 1 = 1 from rfl, Int32.one_mul, nx_add]
theorem ce_dn : ∀ a, a < 30 → ∀ n, n < 32 → a < n → nI a + nI n * (-1) < 0 := by decide +kernel
theorem ce_dp : ∀ a, a < 30 → ∀ n, n < 32 → n ≤ a → nI a + nI n * (-1) = nI (a - n) := by decide +kernel
theorem ce_o (hW : WO W) {h c : Int32} {n : Nat} (hc : ax_ix c (wc W) = true) (hn : n < 31) (hx : ax_ix (ceF c h n) (wc W) = false) : ax_ix (ceF c h (n + 1)) (wc W) = false := by
  have w30 := hW.2.2.2.1
  obtain ⟨a, a1, a2, rfl⟩ := ix_of hc
  unfold ceF at hx ⊢
  by_cases e : h = 0
  · rw [if_pos e, Int32.mul_one, nI_add] at hx ⊢
    have h1 : wc W ≤ a + n := by
      refine Nat.le_of_not_lt (fun z => ?_)
      rw [ixn z (by omega)] at hx; cases hx
    exact ix_ge (by omega) (by omega)
  · rw [if_neg e] at hx ⊢
    have h1 : a < n := by
      refine Nat.lt_of_not_le (fun z => ?_)
      rw [ce_dp a (by omega) n (by omega) z, ixn (by omega) (by omega)] at hx; cases hx
    exact ix_neg (ce_dn a (by omega) (n + 1) (by omega) (by omega))
theorem Iv.w {n : Nat} {s : Lk} (hI : Iv n s) : Iv (n + 1) s := by
  obtain ⟨j, m, q1, q⟩ := hI
  exact ⟨j, m, by omega, q⟩
theorem C_lkl (h : CWo W f σ) (hm : MS W f false σ) {b : Nat} (hb : b < wb W) : ∀ (m n : Nat) (s : Lk), n + 1 + m = wc W → Iv n s → RnI (ev (d + 10) 256 40 [(0, .ref 0), (1, .int (nI b)), (2, .int (if f (4 + b) = 0 then 1 else -1)), (3, .int s.1), (4, .int s.2.1), (5, .int s.2.2), (6, .int (nI (n + 1)))] [] (mkH σ)) (fun τ x => Ag [2817, 20045] σ τ ∧ x = (lkF W (f (4 + b)) (hoF W f b) m (ceF (f b) (f (4 + b)) (n + 1)) s).1 ∧ TD τ [(lkF W (f (4 + b)) (hoF W f b) m (ceF (f b) (f (4 + b)) (n + 1)) s).2.1.toInt64, (lkF W (f (4 + b)) (hoF W f b) m (ceF (f b) (f (4 + b)) (n + 1)) s).2.2.toInt64]) := by
  intro m
  have w4 := h.1.1
  have w30 := h.1.2.2.2.1
  have hfb := (h.2.1.1 b hb).1
  induction m with
  | zero =>
    intro n s hn hI
    obtain ⟨ρ, t1, t2, t3⟩ := T_two (d := d + 7) (σ := σ) (x := s.2.1.toInt64) (y := s.2.2.toInt64)
    rw [g_Main_locks_40, h.2.2.2.1.1, if_pos (show nI (wc W) ≤ nI (n + 1) from Int32.not_lt.mp (nI_nlt (by omega) (by omega))), c_Main_locks_134 t1, g_Main_locks_137]
    exact RnI.mk ⟨t2, rfl, t3⟩
  | succ m ih =>
    intro n s hn hI
    have ec : sA σ 10 b + nI (n + 1) * (if f (4 + b) = 0 then 1 else -1) = ceF (f b) (f (4 + b)) (n + 1) := by
      rw [show sA σ 10 b = f b from (h.2.2.2.2.1.1 b hb).1]; rfl
    rw [g_Main_locks_40, h.2.2.2.1.1, if_neg (show ¬ nI (wc W) ≤ nI (n + 1) from Int32.not_le.mpr (nI_lt (by omega) (by omega))), ixn (k := b) (by omega) (by decide), cond_true, cln (n := b) (by omega), ec, c_Main_locks_74 (C_lock h.2.2.2.1 h.1), g_Main_locks_77, ixn (k := b) (by omega) (by decide), cond_true, cln (n := b) (by omega), show sA σ 15 b = hoF W f b from (hm.1 b hb).2, nI_1]
    obtain ⟨jh, jh1, jh2⟩ := ho_nn h.1 h.2.1 b
    cases hx : ax_ix (ceF (f b) (f (4 + b)) (n + 1)) (wc W) with
    | false =>
      have ih' := ih (n + 1) s (by omega) hI.w
      rw [lk_out (ce_o h.1 hfb (by omega) hx)] at ih'
      obtain ⟨j, mm, q1, q2, q3, q4, q5, q6⟩ := hI
      rw [lk_out hx, cond_false, if_pos (show (0 : Int32) ≤ hoF W f b from by rw [jh2]; exact Int32.not_lt.mp (nI_pos (by omega))), if_neg (show ¬ s.2.2 < 0 from by rw [q4]; exact nI_pos (by omega))]
      exact ih'
    | true =>
      have ih' := ih (n + 1) _ (by omega) (hI.s (hd := hoF W f b) h.1 (by omega) hx)
      obtain ⟨j, mm, q1, q2, q3, q4, q5, q6⟩ := hI
      have emx : (if s.2.2 < mxF 0 (wK W (Int32.toNatClampNeg (ceF (f b) (f (4 + b)) (n + 1)))) then mxF 0 (wK W (Int32.toNatClampNeg (ceF (f b) (f (4 + b)) (n + 1)))) else s.2.2) = mxF s.2.2 (wK W (Int32.toNatClampNeg (ceF (f b) (f (4 + b)) (n + 1)))) := by
        rw [q4]; exact mx_mx q2
      rw [lk_in hx, cond_true, emx, ← ce_s]
      generalize ceF (f b) (f (4 + b)) (n + 1) = c at ih' ⊢
      unfold lkG at ih' ⊢
      by_cases c1 : wK W (Int32.toNatClampNeg c) ≤ hoF W f b
      · rw [if_pos c1] at ih' ⊢
        rw [if_pos ((lk_le (by omega) jh2).mpr c1)]
        exact ih'
      · rw [if_neg c1] at ih' ⊢
        rw [if_neg (fun z => c1 ((lk_le (by omega) jh2).mp z))]
        by_cases c2 : s.1 = 0
        · rw [if_pos c2] at ih' ⊢
          rw [if_pos c2]
          exact ih'
        · rw [if_neg c2] at ih' ⊢
          rw [if_neg c2]
          exact ih'
theorem C_locks (hd : 400 ≤ d) (h : CWo W f σ) : RnI (ev d 256 0 [(0, .ref 0), (1, .int x1)] [] (mkH σ)) (fun τ x => Ag kQc σ τ ∧ x = (lkS x1 W f).1 ∧ TDx σ τ (lkS x1 W f).2) := by
  obtain ⟨d, rfl⟩ : ∃ e, d = e + 10 := ⟨d - 10, by omega⟩
  have w4 := h.1.1
  have w3 := h.1.2.2.1
  have w30 := h.1.2.2.2.1
  unfold lkS
  rw [g_Main_locks_0, c_Main_locks_5 (F_hasB (w := false) h.2.2.1.1 (by omega)), g_Main_locks_8]
  cases hx : ax_ix x1 (wb W) with
  | false => rw [cond_false, if_pos rfl, m1]; exact RnI.mk ⟨Ag.rf, rfl, rfl, rfl⟩
  | true =>
    obtain ⟨b, b1, b2, rfl⟩ := ix_of hx
    obtain ⟨τ, j1, j2, j3, j4⟩ := K_now (d := d + 6) h
    rw [cond_true, if_neg (by decide), c_Main_locks_17 j1, g_Main_locks_20, c_Main_locks_25 (F_step (w := false) (by omega)), g_Main_locks_28, cond_true, cln (n := b) (by omega), (j3.2.2.2.2.1.1 b b1).2.1, m1]
    have hfb := (h.2.1.1 b b1).1
    have hD : Dm W (f (4 + b)) (wc W - 1) (nxF (f b) (f (4 + b))) := by
      refine Dm.s h.1 (fun _ => ?_) hfb
      obtain ⟨a, a1, a2, ea⟩ := ix_of hfb
      refine ⟨a, ea, a1, ?_⟩
      split <;> omega
    have hl := C_lkl (d := d) j3 j4 b1 (wc W - 1) 0 (0, -1, 0) (by omega) ⟨0, 0, Nat.le_refl _, by omega, rfl, rfl, fun _ => rfl, fun z => absurd z (Nat.lt_irrefl 0)⟩
    rw [show 0 + 1 = 1 from rfl, ce_1, ← lk_more h.1 (k := 32 - wc W) _ _ _ hD, show wc W - 1 + (32 - wc W) = 31 from by omega] at hl
    exact hl.im (fun ρ x ⟨p1, p2, p3⟩ => ⟨(j2.wk rfl).tr (p1.wk rfl), p2, p3⟩)
theorem M_lkl (h : MWo W f σ) {b : Nat} (hb : b < wb W) : ∀ (m n : Nat) (c : Int32) (s : Lk), n + m ≤ 40 → Dm W (f (4 + b)) m c → Iv n s → RnI (ev (d + 10) 97 41 [(0, .ref 50), (1, .int (nI b)), (2, .int s.2.1), (3, .int s.1), (4, .int s.2.2), (5, .int c)] [] (mkH σ)) (fun τ x => Ag [3209, 20055] σ τ ∧ x = (lkF W (f (4 + b)) (hoF W f b) m c s).1 ∧ MD τ [(lkF W (f (4 + b)) (hoF W f b) m c s).2.1.toInt64, (lkF W (f (4 + b)) (hoF W f b) m c s).2.2.toInt64]) := by
  intro m
  have w4 := h.1.1
  have w30 := h.1.2.2.2.1
  have exit : ∀ (s : Lk) (c : Int32), RnI (ev (d + 10) 97 127 [(0, .ref 50), (1, .int (nI b)), (2, .int s.2.1), (3, .int s.1), (4, .int s.2.2), (5, .int c)] [.long (Int32.toInt64 s.2.1), .ref 50] (mkH (uI σ 3209 0))) (fun τ x => Ag [3209, 20055] σ τ ∧ x = s.1 ∧ MD τ [s.2.1.toInt64, s.2.2.toInt64]) := by
    intro s c
    obtain ⟨ρ, t1, t2, t3⟩ := N_tell1 (d := d + 8) (σ := σ) (x := s.2.1.toInt64)
    obtain ⟨ρ2, u1, u2, u3⟩ := N_tell2 (d := d + 8) (y := s.2.2.toInt64) t3
    rw [c_Model_locks_127 t1, g_Model_locks_130, c_Model_locks_134 u1, g_Model_locks_137]
    exact RnI.mk ⟨t2.tr u2, rfl, u3⟩
  induction m with
  | zero =>
    intro n c s hn hD hI
    rw [g_Model_locks_41, c_Model_locks_44 (N_isC h.1 h.2.2.1), g_Model_locks_47, hD.z, cond_false, if_pos rfl]
    exact exit s c
  | succ m ih =>
    intro n c s hn hD hI
    rw [g_Model_locks_41, c_Model_locks_44 (N_isC h.1 h.2.2.1), g_Model_locks_47]
    cases hx : ax_ix c (wc W) with
    | false =>
      have el : lkF W (f (4 + b)) (hoF W f b) (m + 1) c s = s := by
        show (bif ax_ix c (wc W) then _ else s) = s
        rw [hx]; rfl
      rw [el, cond_false, if_pos rfl]
      exact exit s c
    | true =>
      have el : lkF W (f (4 + b)) (hoF W f b) (m + 1) c s = lkF W (f (4 + b)) (hoF W f b) m (nxF c (f (4 + b))) (lkG (hoF W f b) (wK W (Int32.toNatClampNeg c)) c s) := by
        show (bif ax_ix c (wc W) then _ else s) = _
        rw [hx]; rfl
      have ih' := ih (n + 1) (nxF c (f (4 + b))) _ (by omega) (hD.s h.1 hx) (hI.s (hd := hoF W f b) h.1 (by omega) hx)
      obtain ⟨j, mm, q1, q2, q3, q4, q5, q6⟩ := hI
      have emx : (if s.2.2 < wK W (Int32.toNatClampNeg c) then wK W (Int32.toNatClampNeg c) else s.2.2) = mxF s.2.2 (wK W (Int32.toNatClampNeg c)) := rfl
      rw [el, cond_true, if_neg (by decide), ix_mono hx w30 (by decide), cond_true, cond_true, h.2.2.1.2.2.2.1 _ (ix_lt hx), emx, c_Model_locks_77 (N_hold (v := false) h.1 h.2.2.1 h.2.1 h.2.2.2.1), g_Model_locks_80, add4, ixn (k := 4 + b) (by omega) (by decide), cond_true, cond_true, cond_true, cln (n := 4 + b) (by omega), (h.2.2.2.1.1 b hb).2.1, m1]
      unfold lkG at ih' ⊢
      by_cases c1 : wK W (Int32.toNatClampNeg c) ≤ hoF W f b
      · rw [if_pos c1] at ih' ⊢
        rw [if_neg (Int32.not_lt.mpr c1), c_Model_locks_111 N_next, g_Model_locks_114]
        exact ih'
      · rw [if_neg c1] at ih' ⊢
        rw [if_pos (Int32.not_le.mp c1)]
        by_cases c2 : s.1 = 0
        · have hj : j = 0 := by
            rw [q3] at c2
            exact (nI_eq (a := j) (b := 0) (by omega) (by omega)).mp c2
          rw [if_pos c2] at ih' ⊢
          rw [if_pos (q5 hj), c_Model_locks_111 N_next, g_Model_locks_114]
          exact ih'
        · have hj : 0 < j := by
            cases j with
            | zero => exact absurd q3 c2
            | succ j => omega
          rw [if_neg c2] at ih' ⊢
          rw [if_neg (q6 hj), c_Model_locks_111 N_next, g_Model_locks_114]
          exact ih'
theorem M_locks (hd : 400 ≤ d) (h : MWo W f σ) : RnI (ev d 97 0 [(0, .ref 50), (1, .int x1)] [] (mkH σ)) (fun τ x => Ag kQm σ τ ∧ x = (lkS x1 W f).1 ∧ MDx σ τ (lkS x1 W f).2) := by
  obtain ⟨d, rfl⟩ : ∃ e, d = e + 10 := ⟨d - 10, by omega⟩
  have w4 := h.1.1
  unfold lkS
  have h1 : MWo W f (uI σ 3210 0) := h.nu rfl
  have a0 : Ag kQm σ (uI σ 3210 0) := Ag.I Ag.rf rfl
  rw [g_Model_locks_0, c_Model_locks_7 (N_isB h1.1 h1.2.2.1), g_Model_locks_10]
  cases hx : ax_ix x1 (wb W) with
  | false => rw [cond_false, if_pos rfl, m1]; exact RnI.mk ⟨a0, rfl, rfl, rfl⟩
  | true =>
    obtain ⟨b, b1, b2, rfl⟩ := ix_of hx
    rw [cond_true, if_neg (by decide), ixn (k := b) (by omega) (by decide), cond_true, add4, ixn (k := 4 + b) (by omega) (by decide), cond_true, cln (n := 4 + b) (by omega), cln (n := b) (by omega), (h1.2.2.2.1.1 b b1).1, (h1.2.2.2.1.1 b b1).2.1, c_Model_locks_36 N_next, g_Model_locks_39, m1, cond_true]
    exact (M_lkl h1 b1 31 0 (nxF (f b) (f (4 + b))) (0, -1, 0) (by omega) (Dm.i h.1) ⟨0, 0, Nat.le_refl _, by omega, rfl, rfl, fun _ => rfl, fun z => absurd z (Nat.lt_irrefl 0)⟩).im (fun ρ x ⟨p1, p2, p3⟩ => ⟨a0.tr (p1.wk rfl), p2, p3⟩)
end Q7
theorem op_nearest : Op_nearest 400 INV := fun d hd k σ a1 _ h => q_op (neS a1) (fun W f hW _ => by
  unfold neS; split
  · exact True.intro
  · cases neA (itF W f (Int32.toNatClampNeg a1)).1 (wb W) (wb W)
    · exact True.intro
    · show 2 ≤ 9
      decide) (fun d σ W f hd h => C_nearest hd h) (fun d σ W f hd h => M_nearest hd h) hd h
theorem op_locks : Op_locks 400 INV := fun d hd k σ a1 _ h => q_op (lkS a1) (fun W f hW _ => by
  unfold lkS
  cases ax_ix a1 (wb W)
  · exact True.intro
  · show 2 ≤ 9
    decide) (fun d σ W f hd h => C_locks hd h) (fun d σ W f hd h => M_locks hd h) hd h
