/-! Questions: rouses, nearest, onion, locks -/
section Q5
variable {d : Nat} {σ : Sg} {W : Wd} {f g : Nat → Int32} {x1 x2 : Int32}
theorem N_span : ev (d + 2) 87 0 [(0, .int x1)] [] (mkH σ) = rI σ (inF x1 1 30) := by
  rw [g_Model_isSpan_0, c_Model_isSpan_4 N_inF, g_Model_isSpan_7, if_pos (z1_or inF_z1)]
/-! rouses -/
def roG (W : Wd) (f : Nat → Int32) (n p : Nat) (a : Int32 × Int32) : Int32 × Int32 := if f (25 + p) = 0 then (if tmF W (itF W (upd f (25 + p) 1) n).1 ≤ a.2 then a else (nI p, tmF W (itF W (upd f (25 + p) 1) n).1)) else a
def roA (W : Wd) (f : Nat → Int32) (n k : Nat) : Int32 × Int32 := accA (roG W f n) k (-2, -1)
theorem ro_c {n k : Nat} (hk : k ≤ wp W) : (roA W f n k).1 = -2 ∨ ∃ p, p < wp W ∧ (roA W f n k).1 = nI p := by
  refine accA_inv (P := fun (a : Int32 × Int32) => a.1 = -2 ∨ ∃ p, p < wp W ∧ a.1 = nI p) k (Or.inl rfl) (fun j a hj ha => ?_)
  unfold roG
  split
  · split
    · exact ha
    · exact Or.inr ⟨j, by omega, rfl⟩
  · exact ha
def roS (x1 : Int32) (W : Wd) (f : Nat → Int32) : Int32 × Option (List Int64) := if inF x1 1 30 = 0 then (-1, none) else if (roA W f (Int32.toNatClampNeg x1) (wp W)).1 = -2 then (-2, none) else ((roA W f (Int32.toNatClampNeg x1) (wp W)).1, some [(roA W f (Int32.toNatClampNeg x1) (wp W)).2.toInt64, (tmF W (itF W f (Int32.toNatClampNeg x1)).1).toInt64])
theorem C_rouses (hd : 400 ≤ d) (h : CWo W f σ) : RnI (ev d 249 0 [(0, .ref 0), (1, .int x1)] [] (mkH σ)) (fun τ x => Ag kQc σ τ ∧ x = (roS x1 W f).1 ∧ TDx σ τ (roS x1 W f).2) := by
  obtain ⟨d, rfl⟩ : ∃ e, d = e + 10 := ⟨d - 10, by omega⟩
  have w9 := h.1.2.1
  unfold roS
  rw [g_Main_rouses_0, c_Main_rouses_4 K_in, g_Main_rouses_7]
  by_cases hi : inF x1 1 30 = 0
  · rw [if_pos hi, if_pos hi, m1]; exact RnI.mk ⟨Ag.rf, rfl, rfl, rfl⟩
  · obtain ⟨n, n1, n2, rfl⟩ := in_n hi (a := 1) (b := 30) rfl rfl (by decide) (by decide)
    rw [if_neg hi, if_neg hi, cln (n := n) (by omega), m1, m2]
    refine lpG (α := Sg) (n := wp W) (P := fun k ρ => Ag kQc σ ρ ∧ CWo W f ρ ∧ TDn σ ρ)
      (f := fun k ρ => ev (d + 10) 249 20 [(0, .ref 0), (1, .int (nI n)), (2, .int (roA W f n k).1), (3, .int (roA W f n k).2), (4, .int (nI k))] [] (mkH ρ)) (Q := fun o => RnI o _) ?_ ?_ (wp W) 0 σ (by omega) ⟨Ag.rf, h, rfl, rfl⟩
    · rintro k ρ hk ⟨p1, p2, p3⟩ nx
      show RnI (ev (d + 10) 249 20 [(0, .ref 0), (1, .int (nI n)), (2, .int (roA W f n k).1), (3, .int (roA W f n k).2), (4, .int (nI k))] [] (mkH ρ)) _
      have eh : roA W f n (k + 1) = roG W f n k (roA W f n k) := rfl
      unfold roG at eh
      have nx : ∀ ρ2, Ag kQc σ ρ2 ∧ CWo W f ρ2 ∧ TDn σ ρ2 → RnI (ev (d + 10) 249 20 [(0, .ref 0), (1, .int (nI n)), (2, .int (roA W f n (k + 1)).1), (3, .int (roA W f n (k + 1)).2), (4, .int (nI (k + 1)))] [] (mkH ρ2)) _ := nx
      rw [eh] at nx
      rw [g_Main_rouses_20, show sI ρ 334 = nI (wp W) from p2.2.2.1.2.1, if_neg (nI_ge hk (by omega)), ixn (k := k) (by omega) (by decide), cond_true, cln (n := k) (by omega), show sA ρ 20 k = f (25 + k) from (p2.2.2.2.2.1.2.1 k hk).2.1, nI_1]
      by_cases c : f (25 + k) = 0
      · obtain ⟨ρ1, i1, i2, i3, i4⟩ := K_copy (d := d + 8) p2
        have a2 : Ag [10034] ρ1 (uA ρ1 34 k 1) := Ag.A Ag.rf rfl
        have tr2 : TR W (upd f (25 + k) 1) (uA ρ1 34 k 1) := by
          obtain ⟨t1, t2, t3, t4, t5, t6⟩ := i3
          refine ⟨t1, t2.awak t1 (by omega) (Or.inr rfl), t3.awak t1 (by omega), t4.ag a2 rfl, t5.ag a2 rfl, ?_⟩
          have e : sB (uA ρ1 34 k 1) (fb true) = sB ρ1 (fb true) := rfl
          rw [e]; exact t6.ag a2 (by generalize sB ρ1 (fb true) = u; cases u <;> rfl)
        obtain ⟨ρ2, y, j1, j2, j3, j4⟩ := K_pass (d := d + 3) tr2 (n := n) (xn := nI n) rfl (by omega)
        rw [if_pos c] at nx ⊢
        rw [c_Main_rouses_53 i1, g_Main_rouses_56, ixn (k := k) (by omega) (by decide), cond_true, cln (n := k) (by omega), show vp_nar .boolean 1 = 1 from by decide, c_Main_rouses_72 j1, g_Main_rouses_75, j4, nI_1]
        have g2 : Ag kQc σ ρ2 ∧ CWo W f ρ2 ∧ TDn σ ρ2 := ⟨((p1.tr (i2.wk rfl)).tr (a2.wk rfl)).tr (j2.wk rfl), (i4.ag a2 rfl).ag j2 rfl, ((p3.tr (tdn i2 rfl)).tr (tdn a2 rfl)).tr (tdn j2 rfl)⟩
        by_cases c2 : tmF W (itF W (upd f (25 + k) 1) n).1 ≤ (roA W f n k).2
        · rw [if_pos c2] at nx ⊢
          exact nx ρ2 g2
        · rw [if_neg c2] at nx ⊢
          exact nx ρ2 g2
      · rw [if_neg c] at nx ⊢
        exact nx ρ ⟨p1, p2, p3⟩
    · rintro ρ ⟨p1, p2, p3⟩
      show RnI (ev (d + 10) 249 20 [(0, .ref 0), (1, .int (nI n)), (2, .int (roA W f n (wp W)).1), (3, .int (roA W f n (wp W)).2), (4, .int (nI (wp W)))] [] (mkH ρ)) _
      rw [g_Main_rouses_20, show sI ρ 334 = nI (wp W) from p2.2.2.1.2.1, if_pos (nI_le (Nat.le_refl _) (by omega))]
      rcases ro_c (f := f) (n := n) (Nat.le_refl (wp W)) with e | ⟨p, e1, e⟩
      · rw [e, if_pos (by decide), if_pos rfl]
        exact RnI.mk ⟨p1, rfl, p3⟩
      · obtain ⟨ρ2, j1, j2, j3, j4⟩ := K_ahead (d := d + 2) p2 (xn := nI n) rfl (by omega)
        obtain ⟨ρ3, t1, t2, t3⟩ := T_two (d := d + 7) (σ := ρ2) (x := (roA W f n (wp W)).2.toInt64) (y := (tmF W (itF W f n).1).toInt64)
        rw [e, if_neg (nI_pos (by omega)), if_neg (nI_nm2 (by omega)), c_Main_rouses_107 j1, c_Main_rouses_110 (F_arrF (w := true) j3.1 j3.2.2.1 j3.2.2.2.1), g_Main_rouses_113, c_Main_rouses_114 t1, g_Main_rouses_117]
        exact RnI.mk ⟨(p1.tr j2).tr (t2.wk rfl), rfl, t3⟩
theorem N_hoursW (hd : 300 ≤ d) (h : MWo W f σ) (hg : OK W g) (hl : Lv W (sA σ 62) g) {n : Nat} {xn : Int32} (hxn : xn = nI n) (hn : n < 2147483648) : RnV (ev (d + 5) 60 0 [(0, .ref 50), (1, .ref 62), (2, .int xn)] [] (mkH σ)) (fun τ => Ag (kHm true) σ τ ∧ Lv W (sA τ 62) (itF W g n).1 ∧ MWo W f τ) :=
  (N_hours (v := true) hd h.1 h.2.2.1 hg hl h.2.2.2.2 hxn hn).im (fun τ ⟨k1, k2, _, _⟩ => ⟨k1, k2, h.ag k1 rfl⟩)
theorem M_rouses (hd : 400 ≤ d) (h : MWo W f σ) : RnI (ev d 88 0 [(0, .ref 50), (1, .int x1)] [] (mkH σ)) (fun τ x => Ag kQm σ τ ∧ x = (roS x1 W f).1 ∧ MDx σ τ (roS x1 W f).2) := by
  obtain ⟨d, rfl⟩ : ∃ e, d = e + 10 := ⟨d - 10, by omega⟩
  have w9 := h.1.2.1
  unfold roS
  have h1 : MWo W f (uI σ 3210 0) := h.nu rfl
  have a0 : Ag kQm σ (uI σ 3210 0) := Ag.I Ag.rf rfl
  rw [g_Model_rouses_0, c_Model_rouses_6 N_span, g_Model_rouses_9]
  by_cases hi : inF x1 1 30 = 0
  · rw [if_pos hi, if_pos hi, m1]; exact RnI.mk ⟨a0, rfl, rfl, rfl⟩
  · obtain ⟨n, n1, n2, rfl⟩ := in_n hi (a := 1) (b := 30) rfl rfl (by decide) (by decide)
    rw [if_neg hi, if_neg hi, cln (n := n) (by omega), m1, m2]
    refine lpG (α := Sg) (n := wp W) (P := fun k ρ => Ag kQm σ ρ ∧ MWo W f ρ ∧ MDn σ ρ)
      (f := fun k ρ => ev (d + 10) 88 22 [(0, .ref 50), (1, .int (nI n)), (2, .int (roA W f n k).1), (3, .int (roA W f n k).2), (4, .int (nI k))] [] (mkH ρ)) (Q := fun o => RnI o _) ?_ ?_ (wp W) 0 (uI σ 3210 0) (by omega) ⟨a0, h1, rfl, rfl⟩
    · rintro k ρ hk ⟨p1, p2, p3⟩ nx
      show RnI (ev (d + 10) 88 22 [(0, .ref 50), (1, .int (nI n)), (2, .int (roA W f n k).1), (3, .int (roA W f n k).2), (4, .int (nI k))] [] (mkH ρ)) _
      have eh : roA W f n (k + 1) = roG W f n k (roA W f n k) := rfl
      unfold roG at eh
      have nx : ∀ ρ2, Ag kQm σ ρ2 ∧ MWo W f ρ2 ∧ MDn σ ρ2 → RnI (ev (d + 10) 88 22 [(0, .ref 50), (1, .int (nI n)), (2, .int (roA W f n (k + 1)).1), (3, .int (roA W f n (k + 1)).2), (4, .int (nI (k + 1)))] [] (mkH ρ2)) _ := nx
      rw [eh] at nx
      rw [g_Model_rouses_22, p2.2.2.1.2.1, if_neg (nI_ge hk (by omega)), add25, ixn (k := 25 + k) (by omega) (by decide), cond_true, cln (n := 25 + k) (by omega), (p2.2.2.2.1.2.1 k hk).2.1, nI_1]
      by_cases c : f (25 + k) = 0
      · obtain ⟨ρ1, i1, i2, i3, i4⟩ := N_layW (d := d + 8) p2
        have a2 : Ag [10062] ρ1 (uA ρ1 62 (25 + k) 1) := Ag.A Ag.rf rfl
        have m2 := i4.ag a2 rfl
        have ok2 : OK W (upd f (25 + k) 1) := m2.2.1.awak m2.1 (by omega) (Or.inr rfl)
        obtain ⟨ρ2, j1, j2, j3, j4⟩ := N_hoursW (d := d + 4) (by omega) m2 ok2 i3.a62 (n := n) (xn := nI n) rfl (by omega)
        have hth := N_thereM (d := d + 7) (v := true) (σ := ρ2) h.1 j4.2.2.1 (it_ok h.1 ok2 n) j3
        rw [if_pos c] at nx
        rw [if_neg (by rw [c]; decide), c_Model_rouses_57 i1, g_Model_rouses_60, add25, ixn (k := 25 + k) (by omega) (by decide), cond_true, cln (n := 25 + k) (by omega), c_Model_rouses_77 j1, g_Model_rouses_80, c_Model_rouses_85 hth, g_Model_rouses_88, nI_1]
        have g2 : Ag kQm σ ρ2 ∧ MWo W f ρ2 ∧ MDn σ ρ2 := ⟨((p1.tr (i2.wk rfl)).tr (a2.wk rfl)).tr (j2.wk rfl), j4, ((p3.tr (mdn i2 rfl)).tr (mdn a2 rfl)).tr (mdn j2 rfl)⟩
        by_cases c2 : tmF W (itF W (upd f (25 + k) 1) n).1 ≤ (roA W f n k).2
        · rw [if_pos c2] at nx
          rw [if_neg (Int32.not_lt.mpr c2)]
          exact nx ρ2 g2
        · rw [if_neg c2] at nx
          rw [if_pos (Int32.not_le.mp c2), c_Model_rouses_103 hth, g_Model_rouses_106, nI_1]
          exact nx ρ2 g2
      · rw [if_neg c] at nx
        rw [if_pos (z1_n0 (h.2.1.2 k hk).2.1 c)]
        exact nx ρ ⟨p1, p2, p3⟩
    · rintro ρ ⟨p1, p2, p3⟩
      show RnI (ev (d + 10) 88 22 [(0, .ref 50), (1, .int (nI n)), (2, .int (roA W f n (wp W)).1), (3, .int (roA W f n (wp W)).2), (4, .int (nI (wp W)))] [] (mkH ρ)) _
      rw [g_Model_rouses_22, p2.2.2.1.2.1, if_pos (nI_le (Nat.le_refl _) (by omega)), m2]
      by_cases e : (roA W f n (wp W)).1 = -2
      · rw [if_pos e, if_pos e]
        exact RnI.mk ⟨p1, rfl, p3⟩
      · obtain ⟨ρ2, j1, j2, j3, j4⟩ := N_thenW (d := d + 3) (by omega) p2 (xn := nI n) rfl (by omega)
        obtain ⟨ρ3, t1, t2, t3⟩ := N_tell1 (d := d + 8) (σ := ρ2) (x := (roA W f n (wp W)).2.toInt64)
        have m3 := j4.ag t2 rfl
        have hth := N_thereM (d := d + 7) (v := true) (σ := ρ3) h.1 m3.2.2.1 (it_ok h.1 h.2.1 n) (by show Lv W (sA ρ3 62) _; rw [t2.2.1 62 rfl]; exact j3)
        obtain ⟨ρ4, u1, u2, u3⟩ := N_tell2 (d := d + 8) (y := (tmF W (itF W f n).1).toInt64) t3
        rw [if_neg e, if_neg e, c_Model_rouses_124 j1, g_Model_rouses_127, c_Model_rouses_135 t1, g_Model_rouses_138, c_Model_rouses_144 hth, g_Model_rouses_147, c_Model_rouses_148 u1, g_Model_rouses_151]
        exact RnI.mk ⟨((p1.tr (j2.wk rfl)).tr (t2.wk rfl)).tr (u2.wk rfl), rfl, u3⟩
/-! onion -/
def orF (o : Option Nat) (z : Int32) : Int32 := match o with
  | some k => nI k
  | none => z
def cgF (f : Nat → Int32) (b : Nat) (x : Int32) : Nat → Int32 := upd f (8 + b) (mnF 9 (f (8 + b) + x))
def onA (o1 o2 : Option Nat) : Int32 := match o1, o2 with
  | some k, some j => 100 + nI j - nI k
  | _, _ => -2
def onS (x1 x2 : Int32) (W : Wd) (f : Nat → Int32) : Int32 × Option (List Int64) := bif ax_ix x1 (wb W) then (if inF x2 1 9 = 0 then (-1, none) else (onA (fsF (arP W f (Int32.toNatClampNeg x1)) 100 0) (fsF (arP W (cgF f (Int32.toNatClampNeg x1) x2) (Int32.toNatClampNeg x1)) 100 0), none)) else (-1, none)
theorem on_end {o1 o2 : Option Nat} {z : Int32} (hz : z = -1 ∨ z = -2) (h1 : ∀ k, o1 = some k → k ≤ 99) (h2 : ∀ k, o2 = some k → k ≤ 99) {A : Sg} : (if orF o1 z < 0 then rI A (-2) else (if 0 ≤ orF o2 z then rI A ((100 + orF o2 z) - orF o1 z) else rI A (-2))) = rI A (onA o1 o2) := by
  have hz0 : z < 0 := by rcases hz with rfl | rfl <;> decide
  cases o1 with
  | none => rw [if_pos (show orF none z < 0 from hz0)]; rfl
  | some k =>
    have := h1 k rfl
    rw [if_neg (show ¬ orF (some k) z < 0 from nI_pos (by omega))]
    cases o2 with
    | none => rw [if_neg (show ¬ 0 ≤ orF none z from Int32.not_le.mpr hz0)]; rfl
    | some j =>
      have := h2 j rfl
      rw [if_pos (show 0 ≤ orF (some j) z from nI_pos' (by omega))]; rfl
theorem fs_of {P : Nat → Bool} {x z : Int32} {Q : Nat → Prop} (h : (∃ k, k ≤ 99 ∧ P k = true ∧ (∀ i, i < k → P i = false) ∧ x = nI k ∧ Q k) ∨ ((∀ i, i ≤ 99 → P i = false) ∧ x = z)) : x = orF (fsF P 100 0) z ∧ ∀ k, fsF P 100 0 = some k → k ≤ 99 := by
  refine ⟨?_, fun k hk => by have := fs_some _ _ _ hk; omega⟩
  rcases h with ⟨k, q1, q2, q3, q4, _⟩ | ⟨q1, q2⟩
  · have e : fsF P 100 0 = some k := by
      have := fs_at (P := P) 100 0 k (by omega) (by rw [Nat.zero_add]; exact q2) (fun j hj => by rw [Nat.zero_add]; exact q3 j hj)
      rwa [Nat.zero_add] at this
    rw [e, q4]; rfl
  · have e : fsF P 100 0 = none := fs_no 100 0 (fun j hj => by rw [Nat.zero_add]; exact q1 j (by omega))
    rw [e, q2]; rfl
theorem cg_ok (hW : WO W) (ho : OK W f) {b n : Nat} (hb : b < wb W) (hn : n ≤ 9) : OK W (cgF f b (nI n)) := by
  have := hW.1
  obtain ⟨a, h1, h2⟩ := (ho.1 b hb).2.2.1
  refine ho.carg hW (by omega) ?_
  rw [h2, nI_add]
  exact mn_n9 ⟨9, by omega, rfl⟩ (k := a + n) (by omega) rfl
theorem C_onion (hd : 400 ≤ d) (h : CWo W f σ) : RnI (ev d 257 0 [(0, .ref 0), (1, .int x1), (2, .int x2)] [] (mkH σ)) (fun τ x => Ag kQc σ τ ∧ x = (onS x1 x2 W f).1 ∧ TDx σ τ (onS x1 x2 W f).2) := by
  obtain ⟨d, rfl⟩ : ∃ e, d = e + 10 := ⟨d - 10, by omega⟩
  have w4 := h.1.1
  unfold onS
  rw [g_Main_onion_0, c_Main_onion_5 (F_hasB (w := false) h.2.2.1.1 (by omega)), g_Main_onion_8]
  cases hx : ax_ix x1 (wb W) with
  | false => rw [cond_false, if_pos rfl, m1]; exact RnI.mk ⟨Ag.rf, rfl, rfl, rfl⟩
  | true =>
    rw [cond_true, if_neg (by decide), c_Main_onion_15 K_in, g_Main_onion_18, cond_true]
    by_cases hi : inF x2 1 9 = 0
    · rw [if_pos hi, if_pos hi, m1]; exact RnI.mk ⟨Ag.rf, rfl, rfl, rfl⟩
    · obtain ⟨n, n1, n2, rfl⟩ := in_n hi (a := 1) (b := 9) rfl rfl (by decide) (by decide)
      obtain ⟨b, b1, b2, rfl⟩ := ix_of hx
      obtain ⟨τ, k1, k2, k3, k4⟩ := K_copy (d := d + 8) h
      obtain ⟨τ2, y, j1, j2, j3⟩ := K_till (d := d + 2) k3 b1 (m := 99) (xm := 99) rfl (by decide)
      have k42 := k4.ag j2 rfl
      obtain ⟨τ3, i1, i2, i3, i4⟩ := K_copy (d := d + 8) k42
      have a2 : Ag [10026] τ3 (uA τ3 26 b (mnF 9 (f (8 + b) + nI n))) := Ag.A Ag.rf rfl
      have tr2 : TR W (cgF f b (nI n)) (uA τ3 26 b (mnF 9 (f (8 + b) + nI n))) := by
        obtain ⟨t1, t2, t3, t4, t5, t6⟩ := i3
        refine ⟨t1, cg_ok t1 t2 b1 n2, t3.carg t1 (by omega), t4.ag a2 rfl, t5.ag a2 rfl, ?_⟩
        have e : sB (uA τ3 26 b (mnF 9 (f (8 + b) + nI n))) (fb true) = sB τ3 (fb true) := rfl
        rw [e]; exact t6.ag a2 (by generalize sB τ3 (fb true) = u; cases u <;> rfl)
      obtain ⟨τ4, z, l1, l2, l3⟩ := K_till (d := d + 2) tr2 b1 (m := 99) (xm := 99) rfl (by decide)
      obtain ⟨e1, e2⟩ := fs_of j3
      obtain ⟨e3, e4⟩ := fs_of l3
      have emn : (if f (8 + b) + nI n < 9 then f (8 + b) + nI n else 9) = mnF 9 (f (8 + b) + nI n) := rfl
      rw [if_neg hi, if_neg hi, c_Main_onion_31 k1, g_Main_onion_34, c_Main_onion_41 j1, g_Main_onion_44, c_Main_onion_53 i1, g_Main_onion_56, ixn (k := b) (by omega) (by decide), cond_true, cond_true, cln (n := b) (by omega), show sA τ3 12 b = f (8 + b) from (i4.2.2.2.2.1.1 b b1).2.2.1, emn, c_Main_onion_88 l1, g_Main_onion_91, e1, e3, m2]
      have ee := on_end (A := τ4) (Or.inl rfl) e2 e4
      refine RnI.eq ee (RnI.mk ⟨((((k2.wk rfl).tr (j2.wk rfl)).tr (i2.wk rfl)).tr (a2.wk rfl)).tr (l2.wk rfl), rfl, ?_⟩)
      exact ((((tdn k2 rfl).tr (tdn j2 rfl)).tr (tdn i2 rfl)).tr (tdn a2 rfl)).tr (tdn l2 rfl)
theorem M_onion (hd : 400 ≤ d) (h : MWo W f σ) : RnI (ev d 98 0 [(0, .ref 50), (1, .int x1), (2, .int x2)] [] (mkH σ)) (fun τ x => Ag kQm σ τ ∧ x = (onS x1 x2 W f).1 ∧ MDx σ τ (onS x1 x2 W f).2) := by
  obtain ⟨d, rfl⟩ : ∃ e, d = e + 10 := ⟨d - 10, by omega⟩
  have w4 := h.1.1
  unfold onS
  have h1 : MWo W f (uI σ 3210 0) := h.nu rfl
  have a0 : Ag kQm σ (uI σ 3210 0) := Ag.I Ag.rf rfl
  rw [g_Model_onion_0, c_Model_onion_7 (N_isB h1.1 h1.2.2.1), g_Model_onion_10]
  cases hx : ax_ix x1 (wb W) with
  | false => rw [cond_false, if_pos rfl, m1]; exact RnI.mk ⟨a0, rfl, rfl, rfl⟩
  | true =>
    rw [cond_true, if_neg (by decide), c_Model_onion_17 N_inF, g_Model_onion_20, cond_true]
    by_cases hi : inF x2 1 9 = 0
    · rw [if_pos hi, if_pos hi, m1]; exact RnI.mk ⟨a0, rfl, rfl, rfl⟩
    · obtain ⟨n, n1, n2, rfl⟩ := in_n hi (a := 1) (b := 9) rfl rfl (by decide) (by decide)
      obtain ⟨b, b1, b2, rfl⟩ := ix_of hx
      obtain ⟨τ, k1, k2, k3, k4⟩ := N_layW (d := d + 8) h1
      obtain ⟨τ2, y, j1, j2, j3⟩ := N_arrT (d := d + 4) (by omega) k4.1 k4.2.2.1 k4.2.1 k3 k4.2.2.2.2 b1
      obtain ⟨τ3, i1, i2, i3, i4⟩ := N_layW (d := d + 8) (k4.ag j2 rfl)
      have a2 : Ag [10062] τ3 (uA τ3 62 (8 + b) (mnF 9 (f (8 + b) + nI n))) := Ag.A Ag.rf rfl
      have m4 := i4.ag a2 rfl
      obtain ⟨τ4, z, l1, l2, l3⟩ := N_arrT (d := d + 4) (f := cgF f b (nI n)) (by omega) m4.1 m4.2.2.1 (cg_ok m4.1 m4.2.1 b1 n2) i3.a62 m4.2.2.2.2 b1
      obtain ⟨e1, e2⟩ := fs_of j3
      obtain ⟨e3, e4⟩ := fs_of l3
      have emn : (if f (8 + b) + nI n < 9 then f (8 + b) + nI n else 9) = mnF 9 (f (8 + b) + nI n) := rfl
      rw [if_neg hi, if_neg hi, c_Model_onion_34 k1, g_Model_onion_37, c_Model_onion_39 j1, g_Model_onion_42, c_Model_onion_52 i1, g_Model_onion_55, add8, ixn (k := 8 + b) (by omega) (by decide), cond_true, cond_true, cln (n := b) (by omega), cln (n := 8 + b) (by omega), (i3.1 b b1).2.2.1, emn, c_Model_onion_82 l1, g_Model_onion_85, e1, e3, m2]
      have ee := on_end (A := τ4) (Or.inr rfl) e2 e4
      refine RnI.eq ee (RnI.mk ⟨((((a0.tr (k2.wk rfl)).tr (j2.wk rfl)).tr (i2.wk rfl)).tr (a2.wk rfl)).tr (l2.wk rfl), rfl, ?_⟩)
      have := ((((mdn k2 rfl).tr (mdn j2 rfl)).tr (mdn i2 rfl)).tr (mdn a2 rfl)).tr (mdn l2 rfl)
      exact this
end Q5
theorem op_rouses : Op_rouses 400 INV := fun d hd k σ a1 _ h => q_op (roS a1) (fun W f hW _ => by
  unfold roS; split
  · exact True.intro
  · split
    · exact True.intro
    · show 2 ≤ 9
      decide) (fun d σ W f hd h => C_rouses hd h) (fun d σ W f hd h => M_rouses hd h) hd h
theorem op_onion : Op_onion 400 INV := fun d hd k σ a1 a2 _ h => q_op (onS a1 a2) (fun W f hW _ => by
  unfold onS
  cases ax_ix a1 (wb W)
  · exact True.intro
  · rw [cond_true]; split <;> exact True.intro) (fun d σ W f hd h => C_onion hd h) (fun d σ W f hd h => M_onion hd h) hd h
