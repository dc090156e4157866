/-! An hour, by the reference -/
def kGm (v : Bool) : List Nat := [10000 + ma v, 3229, 3230]
def kHm (v : Bool) : List Nat := [10059, 40000, 3212, 3213, 3214, 3215, 3220, 10063, 10064, 10065, 10000 + ma v, 3229, 3230]
section MHOUR
variable {d : Nat} {σ : Sg} {v : Bool} {W : Wd} {f wd hd g : Nat → Int32} {b : Nat}
theorem Lv.at {k : Nat} {x : Int32} (h : Lv W (sA σ (ma v)) g) : Lv W (sA (uA σ (ma v) k x) (ma v)) (upd g k x) := by
  rw [A_S]; exact Lv.up h
theorem N_cell {q : Qs} (hW : WO W) (hw : MW W σ) (hg : Gd W f q) (hf : Lv W (sA σ (ma v)) q.1) (h63 : ∀ b, b < wb W → sA σ 63 b = wd b) (h64 : ∀ b, b < wb W → sA σ 64 b = hd b) (hb : b < wb W) {we bl : Int32} (h3 : sI σ 3229 = we + q.2.1) (h4 : sI σ 3230 = bl + q.2.2) :
    RnI (ev (d + 3) 58 0 [(0, .ref 50), (1, .ref (ma v)), (2, .int (nI b))] [] (mkH σ)) (fun τ x => (stF W wd hd b q = none ∧ x = 0 ∧ τ = σ) ∨ ∃ q', stF W wd hd b q = some q' ∧ x = 1 ∧ Ag (kGm v) σ τ ∧ Lv W (sA τ (ma v)) q'.1 ∧ sI τ 3229 = we + q'.2.1 ∧ sI τ 3230 = bl + q'.2.2) := by
  have w4 := hW.1
  have w30 := hW.2.2.2.1
  have hae := ae_ix hW (hg.1.1 b hb).1 (hg.1.1 b hb).2.1
  rw [g_Model_goCell_0, c_Model_goCell_3 (N_end hW hw hf hb), g_Model_goCell_6]
  have stop : stF W wd hd b q = none → RnI (rI σ 0) (fun τ x => (stF W wd hd b q = none ∧ x = 0 ∧ τ = σ) ∨ ∃ q', stF W wd hd b q = some q' ∧ x = 1 ∧ Ag (kGm v) σ τ ∧ Lv W (sA τ (ma v)) q'.1 ∧ sI τ 3229 = we + q'.2.1 ∧ sI τ 3230 = bl + q'.2.2) := fun h => RnI.mk (Or.inl ⟨h, rfl, rfl⟩)
  have goon : ∀ τ q', stF W wd hd b q = some q' → Ag (kGm v) σ τ → Lv W (sA τ (ma v)) q'.1 → sI τ 3229 = we + q'.2.1 → sI τ 3230 = bl + q'.2.2 → RnI (rI τ 1) (fun τ x => (stF W wd hd b q = none ∧ x = 0 ∧ τ = σ) ∨ ∃ q', stF W wd hd b q = some q' ∧ x = 1 ∧ Ag (kGm v) σ τ ∧ Lv W (sA τ (ma v)) q'.1 ∧ sI τ 3229 = we + q'.2.1 ∧ sI τ 3230 = bl + q'.2.2) := fun τ q' h1 h2 h3 h4 h5 => RnI.mk (Or.inr ⟨q', h1, rfl, h2, h3, h4, h5⟩)
  generalize hst : stF W wd hd b q = st at stop goon
  unfold stF at hst
  cases ha : aeF W q.1 b with
  | true =>
    rw [ha, cond_true] at hst
    rw [cond_true, if_neg (by decide)]
    exact stop hst.symm
  | false =>
    rw [ha] at hae
    have hx : ax_ix (toF q.1 b) (wc W) = true := by
      cases hc : ax_ix (toF q.1 b) (wc W) with
      | true => rfl
      | false => rw [hc] at hae; cases hae
    have hcl := ix_lt hx
    rw [ha, cond_false] at hst
    rw [cond_false, if_pos rfl, ixn (k := b) (by omega) (by decide), cond_true, add4, ixn (k := 4 + b) (by omega) (by decide), cond_true, cln (n := 4 + b) (by omega), cln (n := b) (by omega), (hf.1 b hb).1, (hf.1 b hb).2.1, c_Model_goCell_19 N_next]
    have eto : nxF (q.1 b) (q.1 (4 + b)) = toF q.1 b := rfl
    rw [eto, g_Model_goCell_22, ix_mono hx w30 (by decide), cond_true, ixn (k := b) (by omega) (by decide), cond_true, cln (n := b) (by omega), hw.2.2.2.1 _ hcl, h64 b hb]
    by_cases c1 : wK W (Int32.toNatClampNeg (toF q.1 b)) ≤ hd b
    · rw [if_pos c1] at hst
      rw [if_pos c1, c_Model_goCell_43 (N_on hW hw hf), g_Model_goCell_46, m1]
      by_cases c2 : onF W q.1 (toF q.1 b) = -1
      · rw [if_pos c2] at hst
        rw [if_pos c2, ixn (k := b) (by omega) (by decide), cond_true, cln (n := b) (by omega)]
        refine goon _ _ hst.symm (Ag.I (Ag.A Ag.rf (by cases v <;> rfl)) (by cases v <;> rfl)) ?_ ?_ ?_
        · rw [A_I]; exact hf.at
        · rw [I_S, h3, Int32.add_assoc]
        · rw [I_I (by decide), I_A]; exact h4
      · rw [if_neg c2] at hst
        obtain ⟨o1, o2, o3⟩ := on_lt hW c2
        generalize hoo : Int32.toNatClampNeg (onF W q.1 (toF q.1 b)) = o at hst o1 o2 o3
        rw [if_neg c2, o2, add4, ixn (k := 4 + b) (by omega) (by decide), cond_true, cln (n := 4 + b) (by omega), (hf.1 b hb).2.1, c_Model_goCell_60 N_next]
        have ebh : nxF (toF q.1 b) (q.1 (4 + b)) = bhF q.1 b := rfl
        rw [ebh, g_Model_goCell_63, add12, ixn (k := 12 + o) (by omega) (by decide), cond_true, cln (n := 12 + o) (by omega), (hf.1 o o1).2.2.2]
        unfold yiF at hst
        by_cases c3 : q.1 (12 + o) = 0
        · rw [beq_t c3, Bool.true_and] at hst
          rw [if_pos c3, add4, add4, ixn (k := 4 + o) (by omega) (by decide), cond_true, ixn (k := 4 + b) (by omega) (by decide), cond_true, cln (n := 4 + o) (by omega), cln (n := 4 + b) (by omega), (hf.1 o o1).2.1, (hf.1 b hb).2.1]
          by_cases c4 : q.1 (4 + o) = q.1 (4 + b)
          · rw [beq_t c4] at hst
            rw [if_pos c4, if_pos rfl]
            exact stop hst.symm
          · rw [beq_f c4] at hst
            rw [if_neg c4, ixn (k := o) (by omega) (by decide), cond_true, ixn (k := b) (by omega) (by decide), cond_true, cln (n := o) (by omega), cln (n := b) (by omega), h63 o o1, h63 b hb]
            by_cases c5 : wd o < wd b
            · rw [decide_eq_true c5, Bool.not_false, Bool.true_and, Bool.true_and] at hst
              rw [if_neg (Int32.not_le.mpr c5), if_neg (by decide), c_Model_goCell_120 (N_isC hW hw), g_Model_goCell_123]
              unfold clF at hst
              cases hy : ax_ix (bhF q.1 b) (wc W) with
              | false =>
                rw [hy] at hst
                rw [cond_false, if_pos rfl]
                exact stop hst.symm
              | true =>
                rw [hy, Bool.true_and] at hst
                rw [cond_true, if_neg (by decide), c_Model_goCell_129 (N_lock hW hw hy), g_Model_goCell_132]
                by_cases c6 : 0 < wK W (Int32.toNatClampNeg (bhF q.1 b))
                · rw [decide_eq_true c6] at hst
                  rw [if_pos c6, if_neg (by decide)]
                  exact stop hst.symm
                · rw [decide_eq_false c6, Bool.not_false, Bool.true_and] at hst
                  rw [if_neg c6, if_pos rfl, c_Model_goCell_139 (N_on hW hw hf), g_Model_goCell_142, m1]
                  by_cases c7 : onF W q.1 (bhF q.1 b) = -1
                  · rw [beq_t c7, cond_true] at hst
                    rw [if_pos c7, ixn (k := o) (by omega) (by decide), cond_true, ixn (k := b) (by omega) (by decide), cond_true, cln (n := o) (by omega), cln (n := b) (by omega)]
                    refine goon _ _ hst.symm (Ag.I (Ag.A (Ag.I (Ag.A Ag.rf (by cases v <;> rfl)) (by cases v <;> rfl)) (by cases v <;> rfl)) (by cases v <;> rfl)) ?_ ?_ ?_
                    · rw [A_I, A_S, A_I, A_S]
                      exact Lv.up (Lv.up hf)
                    · rw [I_S, h3, Int32.add_assoc]
                    · rw [I_I (by decide), I_A, I_S, h4, Int32.add_assoc]
                  · rw [beq_f c7, cond_false] at hst
                    rw [if_neg c7]
                    exact stop hst.symm
            · rw [decide_eq_false c5, Bool.and_false, Bool.false_and] at hst
              rw [if_pos (Int32.not_lt.mp c5), if_pos rfl]
              exact stop hst.symm
        · rw [beq_f c3, Bool.false_and, Bool.false_and, Bool.false_and] at hst
          rw [if_neg c3, if_pos rfl]
          exact stop hst.symm
    · rw [if_neg c1] at hst
      rw [if_neg c1]
      exact stop hst.symm
/-- how it is while they go -/
def GoS (W : Wd) (f wd hd : Nat → Int32) (v : Bool) (we bl : Int32) (σ : Sg) (q : Qs) (τ : Sg) : Prop := Gd W f q ∧ Ag (kGm v) σ τ ∧ Lv W (sA τ (ma v)) q.1 ∧ sI τ 3229 = we + q.2.1 ∧ sI τ 3230 = bl + q.2.2
theorem N_run (hW : WO W) (hw : MW W σ) (h63 : ∀ b, b < wb W → sA σ 63 b = wd b) (h64 : ∀ b, b < wb W → sA σ 64 b = hd b) (hb : b < wb W) {we bl : Int32} {Q : Sg → Prop} : ∀ (r : Nat) (q : Qs) (ρ : Sg) (x3 : Int32), r < 2147483648 → (if r = 0 then x3 ≤ 0 else x3 = nI r) → GoS W f wd hd v we bl σ q ρ → (∀ τ, GoS W f wd hd v we bl σ (rnF W wd hd b r q) τ → RnV (ev (d + 4) 59 70 [(0, .ref 50), (1, .ref (ma v)), (2, .int (nI (b + 1)))] [] (mkH τ)) Q) → RnV (ev (d + 4) 59 107 [(0, .ref 50), (1, .ref (ma v)), (2, .int (nI b)), (3, .int x3)] [] (mkH ρ)) Q
  | 0, q, ρ, x3, _, hx, hp, next => by
    rw [if_pos rfl] at hx
    rw [g_Model_goHour_107, if_pos hx, nI_1]
    exact next ρ hp
  | r + 1, q, ρ, x3, hr, hx, hp, next => by
    rw [if_neg (by omega)] at hx
    subst hx
    obtain ⟨p1, p2, p3, p4, p5⟩ := hp
    have e63 : sA ρ 63 = sA σ 63 := p2.2.1 63 (by cases v <;> rfl)
    have e64 : sA ρ 64 = sA σ 64 := p2.2.1 64 (by cases v <;> rfl)
    obtain ⟨τ, x, k1, k2⟩ := N_cell (d := d) (wd := wd) (hd := hd) hW (hw.ag p2 (by cases v <;> rfl)) p1 p3 (by rw [e63]; exact h63) (by rw [e64]; exact h64) hb p4 p5
    rw [g_Model_goHour_107, if_neg (nI_nle (by omega) (by omega)), c_Model_goHour_114 k1, g_Model_goHour_117]
    have next : ∀ τ, GoS W f wd hd v we bl σ (match stF W wd hd b q with | none => q | some q' => rnF W wd hd b r q') τ → RnV (ev (d + 4) 59 70 [(0, .ref 50), (1, .ref (ma v)), (2, .int (nI (b + 1)))] [] (mkH τ)) Q := next
    rcases k2 with ⟨h1, h2, h3⟩ | ⟨q', h1, h2, h3, h4, h5, h6⟩
    · rw [h1] at next
      subst h2 h3
      rw [if_pos rfl, nI_1]
      exact next τ ⟨p1, p2, p3, p4, p5⟩
    · rw [h1] at next
      subst h2
      rw [if_neg (by decide), nI_dec]
      refine N_run hW hw h63 h64 hb r q' τ (nI r) (by omega) ?_ ⟨(st_gd hW hb p1 h1).1, p2.tr h3, h4, h5, h6⟩ next
      split
      · rename_i e; rw [e]; decide
      · rfl
theorem N_goA (hW : WO W) (hw : MW W σ) (ho : OK W f) (hf : Lv W (sA σ (ma v)) f) (h63 : ∀ b, b < wb W → sA σ 63 b = wiF W f b) (h64 : ∀ b, b < wb W → sA σ 64 b = hoF W f b) {Q : Sg → Prop}
    (next : ∀ τ, GoS W f (wiF W f) (hoF W f) v (sI σ 3229) (sI σ 3230) σ (goH W f) τ → RnV (ev (d + 4) 59 134 [(0, .ref 50), (1, .ref (ma v)), (2, .int 0)] [] (mkH τ)) Q) :
    RnV (ev (d + 4) 59 70 [(0, .ref 50), (1, .ref (ma v)), (2, .int 0)] [] (mkH σ)) Q := by
  have w4 := hW.1
  refine lpG (α := Sg) (n := wb W) (P := fun k ρ => GoS W f (wiF W f) (hoF W f) v (sI σ 3229) (sI σ 3230) σ (goA W (wiF W f) (hoF W f) k (f, 0, 0)) ρ)
    (f := fun k ρ => ev (d + 4) 59 70 [(0, .ref 50), (1, .ref (ma v)), (2, .int (nI k))] [] (mkH ρ)) (Q := fun o => RnV o Q) ?_ ?_ (wb W) 0 σ (by omega) ⟨⟨ho, fun _ _ => rfl⟩, Ag.rf, hf, (Int32.add_zero _).symm, (Int32.add_zero _).symm⟩
  · rintro k ρ hk hp nx
    show RnV (ev (d + 4) 59 70 [(0, .ref 50), (1, .ref (ma v)), (2, .int (nI k))] [] (mkH ρ)) Q
    have hp0 := hp
    obtain ⟨p1, p2, p3, p4, p5⟩ := hp
    have hw' := hw.ag p2 (by cases v <;> rfl)
    have e63 : sA ρ 63 = sA σ 63 := p2.2.1 63 (by cases v <;> rfl)
    rw [g_Model_goHour_70, hw'.1, if_neg (nI_ge hk (by omega)), add12, ixn (k := 12 + k) (by omega) (by decide), cond_true, cln (n := 12 + k) (by omega), (p3.1 k hk).2.2.2, ixn (k := k) (by omega) (by decide), cond_true, cln (n := k) (by omega), e63, h63 k hk]
    have eg : goA W (wiF W f) (hoF W f) (k + 1) (f, 0, 0) = goF W (wiF W f) (hoF W f) k (goA W (wiF W f) (hoF W f) k (f, 0, 0)) := rfl
    unfold goF at eg
    have nx : ∀ τ, GoS W f (wiF W f) (hoF W f) v (sI σ 3229) (sI σ 3230) σ (goA W (wiF W f) (hoF W f) (k + 1) (f, 0, 0)) τ → RnV (ev (d + 4) 59 70 [(0, .ref 50), (1, .ref (ma v)), (2, .int (nI (k + 1)))] [] (mkH τ)) Q := nx
    by_cases ht : (goA W (wiF W f) (hoF W f) k (f, 0, 0)).1 (12 + k) = 0
    · rw [if_pos ht] at eg
      rw [eg] at nx
      rw [if_neg (by rw [ht]; decide)]
      have et : (if (wiF W f k + 2) / 3 < 3 then (wiF W f k + 2) / 3 else 3) = tiF (wiF W f) k := rfl
      rw [et]
      have t3 : Int32.toNatClampNeg (tiF (wiF W f) k) ≤ 3 := ti_3
      refine N_run hW hw h63 h64 hk (Int32.toNatClampNeg (tiF (wiF W f) k)) _ ρ _ (by omega) ?_ hp0 nx
      split
      · rename_i e
        exact (le_cl (k := 0) (by decide)).mpr (by omega)
      · rename_i e
        have : ¬ tiF (wiF W f) k < 0 := fun z => e (by
          show (tiF (wiF W f) k).toInt.toNat = 0
          rw [Int32.lt_iff_toInt_lt, show (0 : Int32).toInt = 0 from by decide] at z
          omega)
        obtain ⟨j, hj, ej⟩ := nI_of this
        rw [ej, show Int32.toNatClampNeg (nI j) = j from nI_clamp hj]
    · rw [if_neg ht] at eg
      rw [eg] at nx
      rw [if_pos (z1_n0 (p1.1.1 k hk).2.2.2 ht)]
      exact N_run hW hw h63 h64 hk 0 _ ρ 0 (by decide) (by rw [if_pos rfl]; decide) hp0 nx
  · rintro ρ hp
    show RnV (ev (d + 4) 59 70 [(0, .ref 50), (1, .ref (ma v)), (2, .int (nI (wb W)))] [] (mkH ρ)) Q
    rw [g_Model_goHour_70, (hw.ag hp.2.1 (by cases v <;> rfl)).1, if_pos (nI_le (Nat.le_refl _) (by omega))]
    exact next ρ hp
def arK (W : Wd) (g : Nat → Int32) (k i : Nat) : Int32 := if 12 ≤ i ∧ i < 12 + k then (bif aeF W g (i - 12) then 1 else g i) else g i
theorem arK_s {k : Nat} : (bif aeF W g k then upd (arK W g k) (12 + k) 1 else arK W g k) = arK W g (k + 1) := by
  funext i
  by_cases e : i = 12 + k
  · subst e
    have e1 : arK W g (k + 1) (12 + k) = bif aeF W g k then 1 else g (12 + k) := by
      unfold arK; rw [if_pos (by omega), Nat.add_sub_cancel_left]
    have e2 : arK W g k (12 + k) = g (12 + k) := if_neg (by omega)
    rw [e1]
    cases aeF W g k
    · exact e2
    · exact upS
  · have e1 : arK W g (k + 1) i = arK W g k i := by
      unfold arK
      by_cases c : 12 ≤ i ∧ i < 12 + k
      · rw [if_pos c, if_pos (by omega)]
      · rw [if_neg c, if_neg (by omega)]
    rw [e1]
    cases aeF W g k
    · rfl
    · exact upN e
theorem N_arr (hW : WO W) (hw : MW W σ) (hf : Lv W (sA σ (ma v)) g) {Q : Sg → Prop}
    (next : ∀ τ, Ag [10000 + ma v] σ τ → Lv W (sA τ (ma v)) (arG W g) → RnV (ev (d + 4) 59 166 [(0, .ref 50), (1, .ref (ma v)), (2, .int 0)] [] (mkH τ)) Q) :
    RnV (ev (d + 4) 59 134 [(0, .ref 50), (1, .ref (ma v)), (2, .int 0)] [] (mkH σ)) Q := by
  have w4 := hW.1
  have a0 : arK W g 0 = g := by funext i; exact if_neg (by omega)
  refine lpG (α := Sg) (n := wb W) (P := fun k ρ => Ag [10000 + ma v] σ ρ ∧ Lv W (sA ρ (ma v)) (arK W g k))
    (f := fun k ρ => ev (d + 4) 59 134 [(0, .ref 50), (1, .ref (ma v)), (2, .int (nI k))] [] (mkH ρ)) (Q := fun o => RnV o Q) ?_ ?_ (wb W) 0 σ (by omega) ⟨Ag.rf, by rw [a0]; exact hf⟩
  · rintro k ρ hk ⟨p1, p2⟩ nx
    show RnV (ev (d + 4) 59 134 [(0, .ref 50), (1, .ref (ma v)), (2, .int (nI k))] [] (mkH ρ)) Q
    have hw' := hw.ag p1 (by cases v <;> rfl)
    have ea : aeF W (arK W g k) k = aeF W g k := by
      have h1 : arK W g k k = g k := if_neg (by omega)
      have h2 : arK W g k (4 + k) = g (4 + k) := if_neg (by omega)
      unfold aeF; rw [h1, h2]
    rw [g_Model_goHour_134, hw'.1, if_neg (nI_ge hk (by omega)), c_Model_goHour_145 (N_end hW hw' p2 hk), g_Model_goHour_148, ea, nI_1]
    have es := arK_s (W := W) (g := g) (k := k)
    cases ha : aeF W g k with
    | false =>
      rw [ha] at es
      rw [cond_false, if_pos rfl]
      refine nx ρ ⟨p1, ?_⟩
      rw [← es]; exact p2
    | true =>
      rw [ha] at es
      rw [cond_true, if_neg (by decide), add12, ixn (k := 12 + k) (by omega) (by decide), cond_true, cln (n := 12 + k) (by omega)]
      refine nx _ ⟨Ag.A p1 (by cases v <;> rfl), ?_⟩
      rw [← es]; exact p2.at
  · rintro ρ ⟨p1, p2⟩
    show RnV (ev (d + 4) 59 134 [(0, .ref 50), (1, .ref (ma v)), (2, .int (nI (wb W)))] [] (mkH ρ)) Q
    rw [g_Model_goHour_134, (hw.ag p1 (by cases v <;> rfl)).1, if_pos (nI_le (Nat.le_refl _) (by omega))]
    exact next ρ p1 p2
def brK (W : Wd) (f g : Nat → Int32) (k i : Nat) : Int32 := if 34 ≤ i ∧ i < 34 + k then mnF (wl W (i - 34)) (g i + moF W f g (i - 34)) else g i
theorem brK_s {k : Nat} : upd (brK W f g k) (34 + k) (mnF (wl W k) (g (34 + k) + moF W f g k)) = brK W f g (k + 1) := by
  funext i
  by_cases e : i = 34 + k
  · subst e
    rw [upS]
    unfold brK; rw [if_pos (by omega), Nat.add_sub_cancel_left]
  · rw [upN e]
    unfold brK
    by_cases c : 34 ≤ i ∧ i < 34 + k
    · rw [if_pos c, if_pos (by omega)]
    · rw [if_neg c, if_neg (by omega)]
theorem br_hr (hW : WO W) (ho : OK W f) : upd (brK W f (arG W g) (wp W)) 43 (g 43 + 1) = hrG W f g := by
  have w4 := hW.1
  have w9 := hW.2.1
  funext i
  by_cases c3 : i = 43
  · subst c3; rw [upS, hrG_h hW]
  · rw [upN c3]
    by_cases c2 : 34 ≤ i ∧ i < 34 + wp W
    · obtain ⟨p, rfl⟩ : ∃ p, i = 34 + p := ⟨i - 34, by omega⟩
      have hp : p < wp W := by omega
      rw [hrG_a hW hp]
      unfold brK
      rw [if_pos c2, Nat.add_sub_cancel_left, arG_o (by omega), arG_mo hW ho hp]
    · have e1 : brK W f (arG W g) (wp W) i = arG W g i := if_neg c2
      rw [e1]
      by_cases c1 : 12 ≤ i ∧ i < 12 + wb W
      · obtain ⟨b, rfl⟩ : ∃ b, i = 12 + b := ⟨i - 12, by omega⟩
        rw [arG_t (by omega), hrG_t (by omega)]
      · rw [arG_o c1, hrG_o hW c1 c2 c3]
theorem N_brth (hW : WO W) (hw : MW W σ) (ho : OK W f) (hg : OK W g) (hgf : ∀ i, 16 ≤ i → g i = f i) (hf : Lv W (sA σ (ma v)) g) (h65 : ∀ p, p < wp W → sA σ 65 p = puF W f p) :
    RnV (ev (d + 4) 59 166 [(0, .ref 50), (1, .ref (ma v)), (2, .int 0)] [] (mkH σ)) (fun τ => Ag [10000 + ma v] σ τ ∧ Lv W (sA τ (ma v)) (upd (brK W f g (wp W)) 43 (g 43 + 1))) := by
  have w4 := hW.1
  have w9 := hW.2.1
  have w30 := hW.2.2.2.1
  have a0 : brK W f g 0 = g := by funext i; exact if_neg (by omega)
  refine lpG (α := Sg) (n := wp W) (P := fun k ρ => Ag [10000 + ma v] σ ρ ∧ Lv W (sA ρ (ma v)) (brK W f g k))
    (f := fun k ρ => ev (d + 4) 59 166 [(0, .ref 50), (1, .ref (ma v)), (2, .int (nI k))] [] (mkH ρ)) (Q := fun o => RnV o _) ?_ ?_ (wp W) 0 σ (by omega) ⟨Ag.rf, by rw [a0]; exact hf⟩
  · rintro k ρ hk ⟨p1, p2⟩ nx
    show RnV (ev (d + 4) 59 166 [(0, .ref 50), (1, .ref (ma v)), (2, .int (nI k))] [] (mkH ρ)) _
    have hw' := hw.ag p1 (by cases v <;> rfl)
    have lo : ∀ i, i < 34 → brK W f g k i = g i := fun i hi => if_neg (by omega)
    have q0 : brK W f g k (34 + k) = g (34 + k) := if_neg (by omega)
    obtain ⟨q1, q2, q3⟩ := p2.2.1 k hk
    rw [lo _ (by omega), hgf _ (by omega)] at q1
    rw [lo _ (by omega), hgf _ (by omega)] at q2
    rw [q0] at q3
    have hx := (ho.2 k hk).1
    have hlt := ix_lt hx
    have q4 : sA ρ (ma v) (Int32.toNatClampNeg (f (16 + k))) = g (Int32.toNatClampNeg (f (16 + k))) := by rw [(p2.1 _ hlt).1, lo _ (by omega)]
    have q5 : sA ρ 65 k = puF W f k := by rw [p1.2.1 65 (by cases v <;> rfl)]; exact h65 k hk
    have hgx := (hg.1 _ hlt).1
    have es := brK_s (W := W) (f := f) (g := g) (k := k)
    have fin : ∀ y, y = mnF (wl W k) (g (34 + k) + moF W f g k) → RnV (ev (d + 4) 59 166 [(0, .ref 50), (1, .ref (ma v)), (2, .int (nI (k + 1)))] [] (mkH (uA ρ (ma v) (34 + k) y))) (fun τ => Ag [10000 + ma v] σ τ ∧ Lv W (sA τ (ma v)) (upd (brK W f g (wp W)) 43 (g 43 + 1))) := by
      intro y hy
      refine nx _ ⟨Ag.A p1 (by cases v <;> rfl), ?_⟩
      rw [← es, ← hy]; exact p2.at
    rw [g_Model_goHour_166, hw'.2.1, if_neg (nI_ge hk (by omega))]
    simp only [add25, add34, add16, ixn (show 25 + k < 44 by omega) (show 44 < 2147483648 by decide), ixn (show 34 + k < 44 by omega) (show 44 < 2147483648 by decide), ixn (show 16 + k < 44 by omega) (show 44 < 2147483648 by decide), ixn (show k < 9 by omega) (show 9 < 2147483648 by decide), cond_true, cln (show 25 + k < 2147483648 by omega), cln (show 34 + k < 2147483648 by omega), cln (show 16 + k < 2147483648 by omega), cln (show k < 2147483648 by omega), q1, q2, q3, hw'.2.2.2.2 k hk, ix_mono hx (show wb W ≤ 44 by omega) (by decide), q4, ix_mono hgx w30 (by decide), hw'.2.2.2.1 _ (ix_lt hgx), q5, nI_1, m1]
    by_cases aw : f (25 + k) = 0
    · rw [if_pos aw]
      exact fin _ (by unfold moF; rw [if_pos aw]; rfl)
    · rw [if_neg aw]
      by_cases e : wK W (Int32.toNatClampNeg (g (Int32.toNatClampNeg (f (16 + k))))) = -1
      · rw [if_pos e]
        exact fin _ (by unfold moF; rw [if_neg aw, if_pos e]; rfl)
      · rw [if_neg e]
        exact fin _ (by unfold moF; rw [if_neg aw, if_neg e]; rfl)
  · rintro ρ ⟨p1, p2⟩
    show RnV (ev (d + 4) 59 166 [(0, .ref 50), (1, .ref (ma v)), (2, .int (nI (wp W)))] [] (mkH ρ)) _
    rw [g_Model_goHour_166, (hw.ag p1 (by cases v <;> rfl)).2.1, if_pos (nI_le (Nat.le_refl _) (by omega))]
    have e43 : brK W f g (wp W) 43 = g 43 := if_neg (by omega)
    rw [p2.2.2, e43]
    exact RnV.mk ⟨Ag.A p1 (by cases v <;> rfl), p2.at⟩
end MHOUR
