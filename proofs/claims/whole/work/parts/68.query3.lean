/-! Questions: near, stops, nearest -/
def accA {α : Type} (g : Nat → α → α) : Nat → α → α
  | 0, a => a
  | k + 1, a => g k (accA g k a)
theorem accA_inv {α : Type} {g : Nat → α → α} {P : α → Prop} : ∀ (n : Nat) {a : α}, P a → (∀ k a, k < n → P a → P (g k a)) → P (accA g n a)
  | 0, _, h, _ => h
  | n + 1, a, h, hs => hs n _ (by omega) (accA_inv n h (fun k a hk => hs k a (by omega)))
/-- two that nothing of a question's row has changed -/
abbrev TDn (σ τ : Sg) : Prop := sI τ 2817 = sI σ 2817 ∧ sL τ 45 = sL σ 45
abbrev MDn (σ τ : Sg) : Prop := sI τ 3209 = sI σ 3209 ∧ sL τ 55 = sL σ 55
theorem tdn {σ τ : Sg} {K : List Nat} (g : Ag K σ τ) (hk : dj K [2817, 20045] = true) : TDn σ τ := ⟨g.1 2817 (dj_m hk (by decide)), g.2.2.1 45 (dj_m hk (by decide))⟩
theorem mdn {σ τ : Sg} {K : List Nat} (g : Ag K σ τ) (hk : dj K [3209, 20055] = true) : MDn σ τ := ⟨g.1 3209 (dj_m hk (by decide)), g.2.2.1 55 (dj_m hk (by decide))⟩
theorem TDn.tr {σ τ ρ : Sg} (a : TDn σ τ) (b : TDn τ ρ) : TDn σ ρ := ⟨b.1.trans a.1, b.2.trans a.2⟩
theorem MDn.tr {σ τ ρ : Sg} (a : MDn σ τ) (b : MDn τ ρ) : MDn σ ρ := ⟨b.1.trans a.1, b.2.trans a.2⟩
section Q3
variable {d : Nat} {σ : Sg} {W : Wd} {f g : Nat → Int32} {x1 x2 : Int32}
/-! near -/
def nbF (g : Nat → Int32) (c : Int32) : Nat → Nat
  | 0 => 0
  | k + 1 => if asF (g (nbF g c k) - c) ≤ asF (g (k + 1) - c) then nbF g c k else k + 1
theorem nb_le {c : Int32} : ∀ k, nbF g c k ≤ k
  | 0 => Nat.le_refl 0
  | k + 1 => by
    show (if asF (g (nbF g c k) - c) ≤ asF (g (k + 1) - c) then nbF g c k else k + 1) ≤ k + 1
    have h0 : nbF g c k ≤ k := nb_le k
    split
    · omega
    · exact Nat.le_refl _
def nrS (x1 x2 : Int32) (W : Wd) (f : Nat → Int32) : Int32 × Option (List Int64) := bif ax_ix x1 (wc W) then (if inF x2 0 99 = 0 then (-1, none) else if wb W = 0 then (-2, none) else (nI (nbF (itF W f (Int32.toNatClampNeg x2)).1 x1 (wb W - 1)), some [(asF ((itF W f (Int32.toNatClampNeg x2)).1 (nbF (itF W f (Int32.toNatClampNeg x2)).1 x1 (wb W - 1)) - x1)).toInt64])) else (-1, none)
theorem C_near (hd : 400 ≤ d) (h : CWo W f σ) : RnI (ev d 245 0 [(0, .ref 0), (1, .int x1), (2, .int x2)] [] (mkH σ)) (fun τ x => Ag kQc σ τ ∧ x = (nrS x1 x2 W f).1 ∧ TDx σ τ (nrS x1 x2 W f).2) := by
  obtain ⟨d, rfl⟩ : ∃ e, d = e + 10 := ⟨d - 10, by omega⟩
  have w4 := h.1.1
  have w30 := h.1.2.2.2.1
  unfold nrS
  rw [g_Main_near_0, h.2.2.2.1.1, c_Main_near_11 K_in, in_ix (by omega), g_Main_near_14]
  cases hx : ax_ix x1 (wc W) with
  | false => rw [cond_false, if_pos rfl, m1]; exact RnI.mk ⟨Ag.rf, rfl, rfl, rfl⟩
  | true =>
    rw [cond_true, if_neg (by decide), c_Main_near_21 K_in, g_Main_near_24, cond_true]
    by_cases hi : inF x2 0 99 = 0
    · rw [if_pos hi, if_pos hi, m1]; exact RnI.mk ⟨Ag.rf, rfl, rfl, rfl⟩
    · rw [if_neg hi, if_neg hi, show sI σ 325 = nI (wb W) from h.2.2.1.1]
      by_cases hb : wb W = 0
      · rw [hb, if_pos nI_0, if_pos rfl]; exact RnI.mk ⟨Ag.rf, rfl, rfl, rfl⟩
      · obtain ⟨n, n1, n2, rfl⟩ := in_n hi (a := 0) (b := 99) rfl rfl (by decide) (by decide)
        obtain ⟨τ, k1, k2, k3, k4⟩ := K_ahead (d := d + 2) h (xn := nI n) rfl (by omega)
        rw [if_neg hb, if_neg (nI_ne0 (by omega) (by omega)), c_Main_near_44 k1, g_Main_near_47, cln (n := n) (by omega)]
        generalize (itF W f n).1 = g at k3
        refine lpG (α := Sg × Nat) (n := wb W) (P := fun k a => 1 ≤ k ∧ Ag kQc σ a.1 ∧ TR W g a.1 ∧ a.2 = nbF g x1 (k - 1))
          (f := fun k a => ev (d + 10) 245 54 [(0, .ref 0), (1, .int x1), (2, .int (nI n)), (3, .ref (fo true)), (4, .int (nI a.2)), (5, .int (nI k))] [] (mkH a.1)) (Q := fun o => RnI o _) ?_ ?_ (wb W - 1) 1 (τ, 0) (by omega) ⟨Nat.le_refl 1, k2, k3, rfl⟩
        · rintro k ⟨ρ, b⟩ hk ⟨p0, p1, p2, p3⟩ nx
          have p1 : Ag kQc σ ρ := p1
          have p2 : TR W g ρ := p2
          have p3 : b = nbF g x1 (k - 1) := p3
          have hb1 : b < wb W := by rw [p3]; have := nb_le (g := g) (c := x1) (k - 1); omega
          show RnI (ev (d + 10) 245 54 [(0, .ref 0), (1, .int x1), (2, .int (nI n)), (3, .ref (fo true)), (4, .int (nI b)), (5, .int (nI k))] [] (mkH ρ)) _
          rw [g_Main_near_54, p2.2.2.2.1.1, if_neg (nI_ge hk (by omega)), c_Main_near_67 (F_from (w := true) (by omega)), g_Main_near_70, c_Main_near_74 (F_from (w := true) (by omega)), g_Main_near_77, (p2.2.2.1.1 k hk).1, (p2.2.2.1.1 b hb1).1, nI_1]
          have en : nbF g x1 (k + 1 - 1) = if asF (g b - x1) ≤ asF (g k - x1) then b else k := by
            rw [show k + 1 - 1 = (k - 1) + 1 by omega, p3]
            show (if asF (g (nbF g x1 (k - 1)) - x1) ≤ asF (g (k - 1 + 1) - x1) then nbF g x1 (k - 1) else k - 1 + 1) = _
            rw [show k - 1 + 1 = k by omega]
          by_cases c : asF (g b - x1) ≤ asF (g k - x1)
          · rw [if_pos c] at en ⊢
            exact nx (ρ, b) ⟨by omega, p1, p2, en.symm⟩
          · rw [if_neg c] at en ⊢
            exact nx (ρ, k) ⟨by omega, p1, p2, en.symm⟩
        · rintro ⟨ρ, b⟩ ⟨p0, p1, p2, p3⟩
          have p1 : Ag kQc σ ρ := p1
          have p2 : TR W g ρ := p2
          have p3 : b = nbF g x1 (wb W - 1) := p3
          have hb1 : b < wb W := by rw [p3]; have := nb_le (g := g) (c := x1) (wb W - 1); omega
          show RnI (ev (d + 10) 245 54 [(0, .ref 0), (1, .int x1), (2, .int (nI n)), (3, .ref (fo true)), (4, .int (nI b)), (5, .int (nI (wb W)))] [] (mkH ρ)) _
          obtain ⟨ρ2, t1, t2, t3⟩ := T_one (d := d + 7) (σ := ρ) (x := (asF (g b - x1)).toInt64)
          rw [g_Main_near_54, p2.2.2.2.1.1, if_pos (nI_le (Nat.le_refl _) (by omega)), c_Main_near_98 (F_from (w := true) (by omega)), g_Main_near_101, (p2.2.2.1.1 b hb1).1, c_Main_near_102 t1, g_Main_near_105, ← p3]
          exact RnI.mk ⟨p1.tr (t2.wk rfl), rfl, t3⟩
theorem M_near (hd : 400 ≤ d) (h : MWo W f σ) : RnI (ev d 84 0 [(0, .ref 50), (1, .int x1), (2, .int x2)] [] (mkH σ)) (fun τ x => Ag kQm σ τ ∧ x = (nrS x1 x2 W f).1 ∧ MDx σ τ (nrS x1 x2 W f).2) := by
  obtain ⟨d, rfl⟩ : ∃ e, d = e + 10 := ⟨d - 10, by omega⟩
  have w4 := h.1.1
  unfold nrS
  have h1 : MWo W f (uI σ 3210 0) := h.nu rfl
  have a0 : Ag kQm σ (uI σ 3210 0) := Ag.I Ag.rf rfl
  rw [g_Model_near_0, c_Model_near_7 (N_isC h1.1 h1.2.2.1), g_Model_near_10]
  cases hx : ax_ix x1 (wc W) with
  | false => rw [cond_false, if_pos rfl, m1]; exact RnI.mk ⟨a0, rfl, rfl, rfl⟩
  | true =>
    rw [cond_true, if_neg (by decide), c_Model_near_17 N_inF, g_Model_near_20, cond_true]
    by_cases hi : inF x2 0 99 = 0
    · rw [if_pos hi, if_pos hi, m1]; exact RnI.mk ⟨a0, rfl, rfl, rfl⟩
    · rw [if_neg hi, if_neg hi, h1.2.2.1.1]
      by_cases hb : wb W = 0
      · rw [hb, if_pos nI_0, if_pos rfl]; exact RnI.mk ⟨a0, rfl, rfl, rfl⟩
      · obtain ⟨n, n1, n2, rfl⟩ := in_n hi (a := 0) (b := 99) rfl rfl (by decide) (by decide)
        obtain ⟨τ, k1, k2, k3, k4⟩ := N_thenW (d := d + 3) (by omega) h1 (xn := nI n) rfl (by omega)
        rw [if_neg hb, if_neg (nI_ne0 (by omega) (by omega)), c_Model_near_37 k1, g_Model_near_40, cln (n := n) (by omega)]
        generalize (itF W f n).1 = g at k3
        refine lpG (α := Sg × Nat) (n := wb W) (P := fun k a => 1 ≤ k ∧ Ag kQm σ a.1 ∧ MW W a.1 ∧ Lv W (sA a.1 62) g ∧ a.2 = nbF g x1 (k - 1))
          (f := fun k a => ev (d + 10) 84 45 [(0, .ref 50), (1, .int x1), (2, .int (nI n)), (3, .int (nI a.2)), (4, .int (nI k))] [] (mkH a.1)) (Q := fun o => RnI o _) ?_ ?_ (wb W - 1) 1 (τ, 0) (by omega) ⟨Nat.le_refl 1, a0.tr (k2.wk rfl), k4.2.2.1, k3, rfl⟩
        · rintro k ⟨ρ, b⟩ hk ⟨p0, p1, p2, p25, p3⟩ nx
          have p1 : Ag kQm σ ρ := p1
          have p2 : MW W ρ := p2
          have p25 : Lv W (sA ρ 62) g := p25
          have p3 : b = nbF g x1 (k - 1) := p3
          have hb1 : b < wb W := by rw [p3]; have := nb_le (g := g) (c := x1) (k - 1); omega
          show RnI (ev (d + 10) 84 45 [(0, .ref 50), (1, .int x1), (2, .int (nI n)), (3, .int (nI b)), (4, .int (nI k))] [] (mkH ρ)) _
          rw [g_Model_near_45, p2.1, if_neg (nI_ge hk (by omega)), ixn (k := k) (by omega) (by decide), cond_true, ixn (k := b) (by omega) (by decide), cond_true, cln (n := k) (by omega), cln (n := b) (by omega), (p25.1 k hk).1, (p25.1 b hb1).1, nI_1]
          have en : nbF g x1 (k + 1 - 1) = if asF (g b - x1) ≤ asF (g k - x1) then b else k := by
            rw [show k + 1 - 1 = (k - 1) + 1 by omega, p3]
            show (if asF (g (nbF g x1 (k - 1)) - x1) ≤ asF (g (k - 1 + 1) - x1) then nbF g x1 (k - 1) else k - 1 + 1) = _
            rw [show k - 1 + 1 = k by omega]
          by_cases c : asF (g b - x1) ≤ asF (g k - x1)
          · rw [if_pos c] at en
            rw [if_pos (show (if 0 ≤ g b - x1 then g b - x1 else 0 - (g b - x1)) ≤ (if 0 ≤ g k - x1 then g k - x1 else 0 - (g k - x1)) from c)]
            exact nx (ρ, b) ⟨by omega, p1, p2, p25, en.symm⟩
          · rw [if_neg c] at en
            rw [if_neg (show ¬ (if 0 ≤ g b - x1 then g b - x1 else 0 - (g b - x1)) ≤ (if 0 ≤ g k - x1 then g k - x1 else 0 - (g k - x1)) from c)]
            exact nx (ρ, k) ⟨by omega, p1, p2, p25, en.symm⟩
        · rintro ⟨ρ, b⟩ ⟨p0, p1, p2, p25, p3⟩
          have p1 : Ag kQm σ ρ := p1
          have p2 : MW W ρ := p2
          have p25 : Lv W (sA ρ 62) g := p25
          have p3 : b = nbF g x1 (wb W - 1) := p3
          have hb1 : b < wb W := by rw [p3]; have := nb_le (g := g) (c := x1) (wb W - 1); omega
          show RnI (ev (d + 10) 84 45 [(0, .ref 50), (1, .int x1), (2, .int (nI n)), (3, .int (nI b)), (4, .int (nI (wb W)))] [] (mkH ρ)) _
          obtain ⟨ρ2, t1, t2, t3⟩ := N_tell1 (d := d + 8) (σ := ρ) (x := (asF (g b - x1)).toInt64)
          have t1 : ev (d + 9) 13 0 [(0, .ref 50), (1, .long (Int32.toInt64 (if 0 ≤ g b - x1 then g b - x1 else 0 - (g b - x1))))] [] (mkH (uI ρ 3209 0)) = _ := t1
          rw [g_Model_near_45, p2.1, if_pos (nI_le (Nat.le_refl _) (by omega)), ixn (k := b) (by omega) (by decide), cond_true, cln (n := b) (by omega), (p25.1 b hb1).1, c_Model_near_111 t1, g_Model_near_114, ← p3]
          exact RnI.mk ⟨p1.tr (t2.wk rfl), rfl, t3⟩
/-! stops -/
def naF (was c h : Int32) : Bool := !decide (0 < (c - was) * (if h = 0 then 1 else -1))
theorem na_tab : ∀ c, c < 30 → ∀ w, w < 30 → (decide (0 < (nI c - nI w) * 1) = decide (w < c)) ∧ (decide (0 < (nI c - nI w) * -1) = decide (c < w)) := by decide +kernel
theorem na_0 {c w : Nat} (hc : c < 30) (hw : w < 30) : naF (nI w) (nI c) 0 = decide (nI c ≤ nI w) := by
  unfold naF
  rw [if_pos rfl, (na_tab c hc w hw).1]
  by_cases h : w < c
  · rw [decide_eq_true h, decide_eq_false (nI_ge h (by omega))]; rfl
  · rw [decide_eq_false h, decide_eq_true (nI_le (by omega) (by omega))]; rfl
theorem na_1 {c w : Nat} (hc : c < 30) (hw : w < 30) : naF (nI w) (nI c) 1 = decide (nI w ≤ nI c) := by
  unfold naF
  rw [if_neg (by decide), (na_tab c hc w hw).2]
  by_cases h : c < w
  · rw [decide_eq_true h, decide_eq_false (nI_ge h (by omega))]; rfl
  · rw [decide_eq_false h, decide_eq_true (nI_le (by omega) (by omega))]; rfl
def soP (W : Wd) (f : Nat → Int32) (b j : Nat) : Bool := ((itF W f (j + 1)).1 (12 + b) == 0) && naF ((itF W f j).1 b) ((itF W f (j + 1)).1 b) ((itF W f (j + 1)).1 (4 + b))
def soF (W : Wd) (f : Nat → Int32) (b : Nat) : Nat → Nat → Option Nat
  | 0, _ => none
  | m + 1, j => if (itF W f j).1 (12 + b) = 0 then (bif soP W f b j then some (j + 1) else soF W f b m (j + 1)) else none
theorem so_1 {b m k : Nat} (hk : k < m) : soF W f b (m - k) k = if (itF W f k).1 (12 + b) = 0 then (bif soP W f b k then some (k + 1) else soF W f b (m - (k + 1)) (k + 1)) else none := by
  rw [show m - k = (m - (k + 1)) + 1 by omega]; rfl
def soS (x1 : Int32) (W : Wd) (f : Nat → Int32) : Int32 × Option (List Int64) := bif ax_ix x1 (wb W) then (match soF W f (Int32.toNatClampNeg x1) 99 0 with
  | some k => (nI k, some [((itF W f k).1 (Int32.toNatClampNeg x1)).toInt64])
  | none => (-2, none)) else (-1, none)
theorem C_stops (hd : 400 ≤ d) (h : CWo W f σ) : RnI (ev d 240 0 [(0, .ref 0), (1, .int x1)] [] (mkH σ)) (fun τ x => Ag kQc σ τ ∧ x = (soS x1 W f).1 ∧ TDx σ τ (soS x1 W f).2) := by
  obtain ⟨d, rfl⟩ : ∃ e, d = e + 10 := ⟨d - 10, by omega⟩
  have w4 := h.1.1
  unfold soS
  rw [g_Main_stops_0, c_Main_stops_5 (F_hasB (w := false) h.2.2.1.1 (by omega)), g_Main_stops_8]
  cases hx : ax_ix x1 (wb W) with
  | false => rw [cond_false, if_pos rfl, m1]; exact RnI.mk ⟨Ag.rf, rfl, rfl, rfl⟩
  | true =>
    obtain ⟨b, b1, b2, rfl⟩ := ix_of hx
    obtain ⟨τ, k1, k2, k3, k4⟩ := K_copy (d := d + 8) h
    rw [cond_true, if_neg (by decide), c_Main_stops_21 k1, g_Main_stops_24, cond_true, cln (n := b) (by omega)]
    generalize ht : soF W f b 99 0 = tgt
    refine lpG (α := Sg) (n := 99) (P := fun k ρ => Ag kQc σ ρ ∧ TR W (itF W f k).1 ρ ∧ TDn σ ρ ∧ soF W f b (99 - k) k = tgt)
      (f := fun k ρ => ev (d + 10) 240 26 [(0, .ref 0), (1, .int (nI b)), (2, .int (nI (k + 1)))] [] (mkH ρ)) (Q := fun o => RnI o _) ?_ ?_ 99 0 τ (by omega) ⟨k2.wk rfl, k3, tdn k2 rfl, ht⟩
    · rintro k ρ hk ⟨p1, p2, p3, p4⟩ nx
      show RnI (ev (d + 10) 240 26 [(0, .ref 0), (1, .int (nI b)), (2, .int (nI (k + 1)))] [] (mkH ρ)) _
      rw [so_1 hk] at p4
      rw [g_Main_stops_26, if_neg (show ¬ (99 : Int32) < nI (k + 1) from nI_nlt (a := 99) (b := k + 1) (by omega) (by decide)), ixn (k := b) (by omega) (by decide), cond_true, cln (n := b) (by omega), show sA ρ 27 b = _ from (p2.2.2.1.1 b b1).2.2.2, cond_true, show sA ρ 24 b = _ from (p2.2.2.1.1 b b1).1]
      by_cases c : (itF W f k).1 (12 + b) = 0
      · rw [if_pos c] at p4
        obtain ⟨ρ2, y, t1, t2, t3, t4⟩ := K_pass (d := d + 3) p2 (n := 1) (xn := 1) rfl (by decide)
        have t3 : TR W (itF W f (k + 1)).1 ρ2 := t3
        obtain ⟨q1, q2, q3, q4⟩ := t3.2.2.1.1 b b1
        rw [if_pos c, c_Main_stops_59 t1, g_Main_stops_62, ixn (k := b) (by omega) (by decide), cond_true, cln (n := b) (by omega), show sA ρ2 27 b = _ from q4, cond_true, show sA ρ2 24 b = _ from q1, nI_1]
        have p1' : Ag kQc σ ρ2 := p1.tr (t2.wk rfl)
        have p3' : TDn σ ρ2 := p3.tr (tdn t2 rfl)
        unfold soP at p4
        by_cases c2 : (itF W f (k + 1)).1 (12 + b) = 0
        · rw [beq_t c2, Bool.true_and] at p4
          rw [if_pos c2, c_Main_stops_91 (F_step (w := true) (by omega)), g_Main_stops_94, q2]
          unfold naF at p4
          by_cases c3 : 0 < ((itF W f (k + 1)).1 b - (itF W f k).1 b) * (if (itF W f (k + 1)).1 (4 + b) = 0 then 1 else -1)
          · rw [decide_eq_true c3, Bool.not_true, cond_false] at p4
            rw [if_pos c3, nI_1]
            exact nx ρ2 ⟨p1', t3, p3', p4⟩
          · rw [decide_eq_false c3, Bool.not_false, cond_true] at p4
            obtain ⟨ρ3, u1, u2, u3⟩ := T_one (d := d + 7) (σ := ρ2) (x := ((itF W f (k + 1)).1 b).toInt64)
            rw [if_neg c3, ixn (k := b) (by omega) (by decide), cond_true, cln (n := b) (by omega), show sA ρ2 24 b = _ from q1, c_Main_stops_112 u1, g_Main_stops_115, ← p4]
            exact RnI.mk ⟨p1'.tr (u2.wk rfl), rfl, u3⟩
        · rw [beq_f c2, Bool.false_and, cond_false] at p4
          rw [if_neg c2]
          exact nx ρ2 ⟨p1', t3, p3', p4⟩
      · rw [if_neg c] at p4
        rw [if_neg c, ← p4]
        exact RnI.mk ⟨p1, rfl, p3⟩
    · rintro ρ ⟨p1, p2, p3, p4⟩
      show RnI (ev (d + 10) 240 26 [(0, .ref 0), (1, .int (nI b)), (2, .int (nI 100))] [] (mkH ρ)) _
      rw [g_Main_stops_26, if_pos (by decide), ← p4]
      exact RnI.mk ⟨p1, rfl, p3⟩
theorem M_stops (hd : 400 ≤ d) (h : MWo W f σ) : RnI (ev d 79 0 [(0, .ref 50), (1, .int x1)] [] (mkH σ)) (fun τ x => Ag kQm σ τ ∧ x = (soS x1 W f).1 ∧ MDx σ τ (soS x1 W f).2) := by
  obtain ⟨d, rfl⟩ : ∃ e, d = e + 10 := ⟨d - 10, by omega⟩
  have w4 := h.1.1
  have w30 := h.1.2.2.2.1
  unfold soS
  have h1 : MWo W f (uI σ 3210 0) := h.nu rfl
  have a0 : Ag kQm σ (uI σ 3210 0) := Ag.I Ag.rf rfl
  rw [g_Model_stops_0, c_Model_stops_7 (N_isB h1.1 h1.2.2.1), g_Model_stops_10]
  cases hx : ax_ix x1 (wb W) with
  | false => rw [cond_false, if_pos rfl, m1]; exact RnI.mk ⟨a0, rfl, rfl, rfl⟩
  | true =>
    obtain ⟨b, b1, b2, rfl⟩ := ix_of hx
    obtain ⟨τ, k1, k2, k3, k4⟩ := N_layW (d := d + 8) h1
    rw [cond_true, if_neg (by decide), c_Model_stops_24 k1, g_Model_stops_27, cond_true, cln (n := b) (by omega)]
    generalize ht : soF W f b 99 0 = tgt
    refine lpG (α := Sg) (n := 99) (P := fun k ρ => Ag kQm σ ρ ∧ MWo W f ρ ∧ Lv W (sA ρ 62) (itF W f k).1 ∧ MDn σ ρ ∧ soF W f b (99 - k) k = tgt)
      (f := fun k ρ => ev (d + 10) 79 29 [(0, .ref 50), (1, .int (nI b)), (2, .int (nI (k + 1)))] [] (mkH ρ)) (Q := fun o => RnI o _) ?_ ?_ 99 0 τ (by omega) ⟨a0.tr (k2.wk rfl), k4, k3, ⟨k2.1 3209 rfl, k2.2.2.1 55 rfl⟩, ht⟩
    · rintro k ρ hk ⟨p1, p2, p25, p3, p4⟩ nx
      show RnI (ev (d + 10) 79 29 [(0, .ref 50), (1, .int (nI b)), (2, .int (nI (k + 1)))] [] (mkH ρ)) _
      rw [so_1 hk] at p4
      rw [g_Model_stops_29, if_neg (show ¬ (99 : Int32) < nI (k + 1) from nI_nlt (a := 99) (b := k + 1) (by omega) (by decide)), add12, ixn (k := 12 + b) (by omega) (by decide), cond_true, cln (n := 12 + b) (by omega), (p25.1 b b1).2.2.2, ixn (k := b) (by omega) (by decide), cond_true, cln (n := b) (by omega), (p25.1 b b1).1]
      have hok := it_ok h.1 h.2.1 k
      have hok1 := it_ok h.1 h.2.1 (k + 1)
      by_cases c : (itF W f k).1 (12 + b) = 0
      · rw [if_pos c] at p4
        obtain ⟨ρ2, t1, t2, t3, t4⟩ := N_hourW (d := d + 5) (by omega) p2 hok p25
        have t3 : Lv W (sA ρ2 62) (itF W f (k + 1)).1 := t3
        obtain ⟨q1, q2, q3, q4⟩ := t3.1 b b1
        obtain ⟨cw, cw1, cw2, ecw⟩ := ix_of (hok.1 b b1).1
        obtain ⟨cc, cc1, cc2, ecc⟩ := ix_of (hok1.1 b b1).1
        have p1' : Ag kQm σ ρ2 := p1.tr (t2.wk rfl)
        have p3' : MDn σ ρ2 := p3.tr (mdn t2 rfl)
        unfold soP at p4
        rw [ecw, ecc] at p4
        rw [if_pos c, c_Model_stops_59 t1, g_Model_stops_62]
        simp only [add4, add12, ixn (show 4 + b < 44 by omega) (show 44 < 2147483648 by decide), ixn (show 12 + b < 44 by omega) (show 44 < 2147483648 by decide), ixn (show b < 44 by omega) (show 44 < 2147483648 by decide), cond_true, cln (show 4 + b < 2147483648 by omega), cln (show 12 + b < 2147483648 by omega), cln (show b < 2147483648 by omega), q1, q2, q4, ecw, ecc, nI_1, if_true, show ¬ (1 : Int32) = 0 from by decide, if_false]
        have cont : (((itF W f (k + 1)).1 (12 + b) == 0) && naF (nI cw) (nI cc) ((itF W f (k + 1)).1 (4 + b))) = false → RnI (ev (d + 10) 79 29 [(0, .ref 50), (1, .int (nI b)), (2, .int (nI (k + 1 + 1)))] [] (mkH ρ2)) (fun τ x => Ag kQm σ τ ∧ x = (match tgt with | some k => (nI k, some [((itF W f k).1 b).toInt64]) | none => ((-2 : Int32), none)).1 ∧ MDx σ τ (match tgt with | some k => (nI k, some [((itF W f k).1 b).toInt64]) | none => ((-2 : Int32), none)).2) := by
          intro hq
          rw [hq, cond_false] at p4
          exact nx ρ2 ⟨p1', t4, t3, p3', p4⟩
        have stop : ∀ x4, (((itF W f (k + 1)).1 (12 + b) == 0) && naF (nI cw) (nI cc) ((itF W f (k + 1)).1 (4 + b))) = true → RnI (ev (d + 10) 79 142 [(0, .ref 50), (1, .int (nI b)), (2, .int (nI (k + 1))), (3, .int (nI cw)), (4, .int x4)] [.long (Int32.toInt64 (nI cc)), .ref 50] (mkH (uI ρ2 3209 0))) (fun τ x => Ag kQm σ τ ∧ x = (match tgt with | some k => (nI k, some [((itF W f k).1 b).toInt64]) | none => ((-2 : Int32), none)).1 ∧ MDx σ τ (match tgt with | some k => (nI k, some [((itF W f k).1 b).toInt64]) | none => ((-2 : Int32), none)).2) := by
          intro x4 hq
          rw [hq, cond_true] at p4
          obtain ⟨ρ3, u1, u2, u3⟩ := N_tell1 (d := d + 8) (σ := ρ2) (x := (nI cc).toInt64)
          rw [c_Model_stops_142 u1, g_Model_stops_145, ← p4]
          refine RnI.mk ⟨p1'.tr (u2.wk rfl), rfl, ?_⟩
          show MD ρ3 [((itF W f (k + 1)).1 b).toInt64]
          rw [ecc]; exact u3
        rcases (hok1.1 b b1).2.1 with e | e
        · rw [e] at cont stop ⊢
          rw [na_0 (by omega) (by omega)] at cont stop
          rw [if_pos rfl]
          by_cases c3 : nI cc ≤ nI cw
          · rw [decide_eq_true c3, Bool.and_true] at cont stop
            rw [if_pos c3]
            by_cases c2 : (itF W f (k + 1)).1 (12 + b) = 0
            · rw [if_neg (by rw [c2]; decide)]
              exact stop _ (beq_t c2)
            · rw [if_pos (z1_n0 (hok1.1 b b1).2.2.2 c2)]
              exact cont (beq_f c2)
          · rw [decide_eq_false c3, Bool.and_false] at cont
            rw [if_neg c3]
            exact cont rfl
        · rw [e] at cont stop ⊢
          rw [na_1 (by omega) (by omega)] at cont stop
          rw [if_neg (by decide)]
          by_cases c3 : nI cw ≤ nI cc
          · rw [decide_eq_true c3, Bool.and_true] at cont stop
            rw [if_pos c3]
            by_cases c2 : (itF W f (k + 1)).1 (12 + b) = 0
            · rw [if_neg (by rw [c2]; decide)]
              exact stop _ (beq_t c2)
            · rw [if_pos (z1_n0 (hok1.1 b b1).2.2.2 c2)]
              exact cont (beq_f c2)
          · rw [decide_eq_false c3, Bool.and_false] at cont
            rw [if_neg c3]
            exact cont rfl
      · rw [if_neg c] at p4
        rw [if_neg c, ← p4]
        exact RnI.mk ⟨p1, rfl, p3⟩
    · rintro ρ ⟨p1, p2, p25, p3, p4⟩
      show RnI (ev (d + 10) 79 29 [(0, .ref 50), (1, .int (nI b)), (2, .int (nI 100))] [] (mkH ρ)) _
      rw [g_Model_stops_29, if_pos (by decide), ← p4]
      exact RnI.mk ⟨p1, rfl, p3⟩
end Q3
theorem op_near : Op_near 400 INV := fun d hd k σ a1 a2 _ h => q_op (nrS a1 a2) (fun W f hW _ => by
  unfold nrS
  cases ax_ix a1 (wc W)
  · exact True.intro
  · rw [cond_true]; split
    · exact True.intro
    · split
      · exact True.intro
      · show 1 ≤ 9
        decide) (fun d σ W f hd h => C_near hd h) (fun d σ W f hd h => M_near hd h) hd h
theorem op_stops : Op_stops 400 INV := fun d hd k σ a1 _ h => q_op (soS a1) (fun W f hW _ => by
  unfold soS
  cases ax_ix a1 (wb W)
  · exact True.intro
  · rw [cond_true]
    cases soF W f (Int32.toNatClampNeg a1) 99 0
    · exact True.intro
    · show 1 ≤ 9
      decide) (fun d σ W f hd h => C_stops hd h) (fun d σ W f hd h => M_stops hd h) hd h
