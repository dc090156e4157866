/-! Questions: later, arrives, breath -/
def inF (x lo hi : Int32) : Int32 := if x < lo then 0 else if hi < x then 0 else 1
theorem in_n {x lo hi : Int32} {a b : Nat} (h : ¬ inF x lo hi = 0) (ha : lo = nI a) (hb : hi = nI b) (hb2 : b < 2147483648) (hab : a ≤ b) : ∃ n, a ≤ n ∧ n ≤ b ∧ x = nI n := by
  subst ha hb
  unfold inF at h
  by_cases h1 : x < nI a
  · rw [if_pos h1] at h; exact absurd rfl h
  · rw [if_neg h1] at h
    by_cases h2 : nI b < x
    · rw [if_pos h2] at h; exact absurd rfl h
    · have h3 : ¬ x < 0 := fun z => h1 (by
        rw [Int32.lt_iff_toInt_lt] at z ⊢
        rw [nI_toInt (by omega)]
        rw [show (0 : Int32).toInt = 0 from by decide] at z
        omega)
      obtain ⟨j, hj, rfl⟩ := nI_of h3
      rw [nI_ltI hj (by omega)] at h1
      rw [nI_ltI (by omega) hj] at h2
      exact ⟨j, by omega, by omega, rfl⟩
theorem inF_z1 {x lo hi : Int32} : z1 (inF x lo hi) := by
  unfold inF
  split
  · exact Or.inl rfl
  · split
    · exact Or.inl rfl
    · exact Or.inr rfl
def lstF (g : Nat → Int64) (n : Nat) : List Int64 := (List.range n).map g
theorem lst_s {g : Nat → Int64} {n : Nat} : lstF g (n + 1) = lstF g n ++ [g n] := by unfold lstF; rw [List.range_succ, List.map_append]; rfl
theorem lst_len {g : Nat → Int64} {n : Nat} : (lstF g n).length = n := by unfold lstF; rw [List.length_map, List.length_range]
/-- the trial fleet is f -/
def TR (W : Wd) (f : Nat → Int32) (τ : Sg) : Prop := WO W ∧ OK W f ∧ FR W true τ f ∧ CW W true τ ∧ CC W τ ∧ CR τ (sB τ (fb true)) (wV W)
section QB
variable {d : Nat} {σ : Sg} {W : Wd} {f : Nat → Int32}
theorem K_in {x lo hi : Int32} : ev (d + 1) 227 0 [(0, .int x), (1, .int lo), (2, .int hi)] [] (mkH σ) = rI σ (inF x lo hi) := by
  rw [g_Main_within_0]; unfold inF
  split
  · rfl
  · split <;> rfl
theorem N_inF {x lo hi : Int32} : ev (d + 1) 10 0 [(0, .int x), (1, .int lo), (2, .int hi)] [] (mkH σ) = rI σ (inF x lo hi) := N_in
theorem K_copy (h : CWo W f σ) : RnV (ev (d + 1) 135 0 [(0, .ref 23), (1, .ref 5)] [] (mkH σ)) (fun τ => Ag kC σ τ ∧ TR W f τ ∧ CWo W f τ) := by
  have h0 := h
  obtain ⟨h1, h2, h3, h4, h5, h6⟩ := h
  refine (F_copy h1 h2 h5 h3).im (fun τ ⟨k1, k2, k3, k4⟩ => ⟨k1, ⟨h1, h2, k2, k3, h4.ag k1 rfl, ?_⟩, h0.ag k1 rfl⟩)
  have e : sB τ (fb true) = sB σ 0 := k4
  rw [e]; exact h6.ag k1 (by cases sB σ 0 <;> rfl)
theorem TR.agH {τ : Sg} {K : List Nat} (h : TR W f σ) (g : Ag K σ τ) (hk : dj K (kFR true ++ kCW true ++ [193, 10004, 30001] ++ kCR false ++ kCR true) = true) : TR W f τ := by
  have sub : ∀ L, L.all (fun x => (kFR true ++ kCW true ++ [193, 10004, 30001] ++ kCR false ++ kCR true).contains x) = true → dj K L = true := by
    intro L hL
    refine List.all_eq_true.mpr (fun x hx => ?_)
    have h1 := List.all_eq_true.mp hL x hx
    have h2 := dj_m hk (List.contains_iff_mem.mp h1)
    show (!K.contains x) = true
    rw [h2]; rfl
  obtain ⟨h1, h2, h3, h4, h5, h6⟩ := h
  have e : sB τ (fb true) = sB σ (fb true) := g.2.2.2.1 1 (dj_m hk (by decide))
  refine ⟨h1, h2, h3.ag g (sub _ (by decide)), h4.ag g (sub _ (by decide)), h5.ag g (sub _ (by decide)), ?_⟩
  rw [e]
  exact h6.ag g (sub _ (by generalize sB σ (fb true) = u; cases u <;> decide))
theorem K_pass (h : TR W f σ) {n : Nat} {xn : Int32} (hxn : xn = nI n) (hn : n < 2147483648) : RnI (ev (d + 6) 158 0 [(0, .ref 23), (1, .int xn)] [] (mkH σ)) (fun τ x => Ag (kH true) σ τ ∧ TR W (itF W f n).1 τ ∧ x = tmF W (itF W f n).1) := by
  obtain ⟨h1, h2, h3, h4, h5, h6⟩ := h
  exact (F_pass (w := true) h1 h2 h3 h4 h5 h6 hxn hn).im (fun τ x ⟨k1, k2, k3, k4, k5⟩ => ⟨k1, ⟨h1, it_ok h1 h2 n, k2, h4.ag k1 rfl, h5.ag k1 rfl, h6.agH k1⟩, k5⟩)
theorem K_meas (h : TR W f σ) : RnV (ev (d + 3) 157 0 [(0, .ref 23)] [] (mkH σ)) (fun τ => Ag (kM true) σ τ ∧ TR W f τ ∧ MS W f true τ) := by
  have h0 := h
  obtain ⟨h1, h2, h3, h4, h5, h6⟩ := h
  exact (F_measure (w := true) h1 h2 h3 h4 h6).im (fun τ ⟨k1, k2⟩ => ⟨k1, h0.agH k1 rfl, k2⟩)
theorem K_now (h : CWo W f σ) : RnV (ev (d + 3) 157 0 [(0, .ref 5)] [] (mkH σ)) (fun τ => Ag (kM false) σ τ ∧ CWo W f τ ∧ MS W f false τ) := by
  have h0 := h
  obtain ⟨h1, h2, h3, h4, h5, h6⟩ := h
  exact (F_measure (w := false) h1 h2 h5 h3 h6).im (fun τ ⟨k1, k2⟩ => ⟨k1, h0.ag k1 rfl, k2⟩)
theorem K_till (h : TR W f σ) {b m : Nat} (hb : b < wb W) {xm : Int32} (hxm : xm = nI m) (hm : m < 2147483648) : RnI (ev (d + 7) 163 0 [(0, .ref 23), (1, .int (nI b)), (2, .int xm)] [] (mkH σ)) (fun τ x => Ag (kH true) σ τ ∧ ((∃ k, k ≤ m ∧ arP W f b k = true ∧ (∀ i, i < k → arP W f b i = false) ∧ x = nI k ∧ TR W (itF W f k).1 τ) ∨ ((∀ i, i ≤ m → arP W f b i = false) ∧ x = -1))) := by
  obtain ⟨h1, h2, h3, h4, h5, h6⟩ := h
  refine (F_till (w := true) h1 h2 h3 h4 h5 h6 hb hxm hm).im (fun τ x ⟨k1, k2⟩ => ⟨k1, ?_⟩)
  rcases k2 with ⟨k, a1, a2, a3, a4, a5⟩ | a
  · exact Or.inl ⟨k, a1, a2, a3, a4, h1, it_ok h1 h2 k, a5, h4.ag k1 rfl, h5.ag k1 rfl, h6.agH k1⟩
  · exact Or.inr a
theorem K_ahead (h : CWo W f σ) {n : Nat} {xn : Int32} (hxn : xn = nI n) (hn : n < 2147483648) : ∃ τ, ev (d + 7) 238 0 [(0, .ref 0), (1, .int xn)] [] (mkH σ) = some (mkH τ, some (some (.ref (fo true)))) ∧ Ag kQc σ τ ∧ TR W (itF W f n).1 τ ∧ CWo W f τ := by
  obtain ⟨τ1, k1, k2, k3, k4⟩ := K_copy (d := d + 5) h
  obtain ⟨τ2, x, j1, j2, j3, j4⟩ := K_pass (d := d) k3 hxn hn
  refine ⟨τ2, ?_, (k2.wk rfl).tr (j2.wk rfl), j3, k4.ag j2 rfl⟩
  rw [g_Main_ahead_0, c_Main_ahead_8 k1, g_Main_ahead_11, c_Main_ahead_16 j1, g_Main_ahead_19]; rfl
theorem MWo.nu {n : Nat} {x : Int32} {σ : Sg} (h : MWo W f σ) (hk : dj [n] [3201, 3202, 3203, 10052, 10053, 10051, 3219, 10057, 10058, 30003] = true) : MWo W f (uI σ n x) := h.ag (Ag.I Ag.rf (K := [n]) (by show ([n].contains n) = true; simp)) hk
/-- the reference's second row of a state -/
theorem N_thenW (hd : 300 ≤ d) (h : MWo W f σ) {n : Nat} {xn : Int32} (hxn : xn = nI n) (hn : n < 2147483648) : RnV (ev (d + 6) 75 0 [(0, .ref 50), (1, .int xn)] [] (mkH σ)) (fun τ => Ag (kHm true) σ τ ∧ Lv W (sA τ 62) (itF W f n).1 ∧ MWo W f τ) := by
  have h0 := h
  obtain ⟨h1, h2, h3, h4, h5⟩ := h
  exact (N_then hd h1 h3 h2 h4 h5 hxn hn).im (fun τ ⟨k1, k2⟩ => ⟨k1, k2, h0.ag k1 rfl⟩)
theorem N_layW (h : MWo W f σ) : RnV (ev (d + 1) 55 0 [(0, .ref 51), (1, .ref 62), (2, .int 0)] [] (mkH σ)) (fun τ => Ag [10062] σ τ ∧ Lv W (sA τ 62) f ∧ MWo W f τ) :=
  N_lay_nt.im (fun τ ⟨k1, k2⟩ => ⟨k1, Lv.of44 h.1 k2 h.2.2.2.1, h.ag k1 rfl⟩)
end QB
/-! later -/
def laS (x1 x2 : Int32) (W : Wd) (f : Nat → Int32) : Int32 × Option (List Int64) := bif ax_ix x1 (wb W) then (if inF x2 0 99 = 0 then (-1, none) else ((itF W f (Int32.toNatClampNeg x2)).1 (Int32.toNatClampNeg x1), some (lstF (fun b => ((itF W f (Int32.toNatClampNeg x2)).1 b).toInt64) (wb W)))) else (-1, none)
section LATER
variable {d : Nat} {σ : Sg} {W : Wd} {f : Nat → Int32} {x1 x2 : Int32}
theorem C_later (hd : 400 ≤ d) (h : CWo W f σ) : RnI (ev d 237 0 [(0, .ref 0), (1, .int x1), (2, .int x2)] [] (mkH σ)) (fun τ x => Ag kQc σ τ ∧ x = (laS x1 x2 W f).1 ∧ TDx σ τ (laS x1 x2 W f).2) := by
  obtain ⟨d, rfl⟩ : ∃ e, d = e + 10 := ⟨d - 10, by omega⟩
  have w4 := h.1.1
  unfold laS
  rw [g_Main_later_0, c_Main_later_5 (F_hasB (w := false) h.2.2.1.1 (by omega)), g_Main_later_8]
  cases hx : ax_ix x1 (wb W) with
  | false => rw [cond_false, if_pos rfl, m1]; exact RnI.mk ⟨Ag.rf, rfl, rfl, rfl⟩
  | true =>
    rw [cond_true, if_neg (by decide), c_Main_later_15 K_in, g_Main_later_18, cond_true]
    by_cases hi : inF x2 0 99 = 0
    · rw [if_pos hi, if_pos hi, m1]; exact RnI.mk ⟨Ag.rf, rfl, rfl, rfl⟩
    · obtain ⟨n, n1, n2, rfl⟩ := in_n hi (a := 0) (b := 99) rfl rfl (by decide) (by decide)
      obtain ⟨b, b1, b2, rfl⟩ := ix_of hx
      obtain ⟨τ, k1, k2, k3, k4⟩ := K_ahead (d := d + 2) h (xn := nI n) rfl (by omega)
      obtain ⟨τ2, t1, t2, t3⟩ := T_none (d := d + 8) (σ := τ)
      rw [if_neg hi, if_neg hi, c_Main_later_25 k1, g_Main_later_28, c_Main_later_33 t1, g_Main_later_36, cln (n := n) (by omega), cln (n := b) (by omega)]
      have tr2 : TR W (itF W f n).1 τ2 := k3.agH t2 rfl
      refine lpG (α := Sg) (n := wb W) (P := fun k ρ => Ag kQc σ ρ ∧ TR W (itF W f n).1 ρ ∧ TD ρ (lstF (fun b => ((itF W f n).1 b).toInt64) k))
        (f := fun k ρ => ev (d + 10) 237 39 [(0, .ref 0), (1, .int (nI b)), (2, .int (nI n)), (3, .ref (fo true)), (4, .int (nI k))] [] (mkH ρ)) (Q := fun o => RnI o _) ?_ ?_ (wb W) 0 τ2 (by omega) ⟨k2.tr (t2.wk rfl), tr2, t3⟩
      · rintro k ρ hk ⟨p1, p2, p3⟩ nx
        show RnI (ev (d + 10) 237 39 [(0, .ref 0), (1, .int (nI b)), (2, .int (nI n)), (3, .ref (fo true)), (4, .int (nI k))] [] (mkH ρ)) _
        obtain ⟨ρ2, j1, j2, j3⟩ := T_add (d := d + 8) (x := ((itF W f n).1 k).toInt64) p3 (by rw [lst_len]; omega)
        rw [g_Main_later_39, p2.2.2.2.1.1, if_neg (nI_ge hk (by omega)), ixn (k := k) (by omega) (by decide), cond_true, cln (n := k) (by omega), (p2.2.2.1.1 k hk).1, c_Main_later_60 j1, g_Main_later_63, nI_1]
        refine nx ρ2 ⟨p1.tr (j2.wk rfl), p2.agH j2 rfl, ?_⟩
        rw [lst_s]; exact j3
      · rintro ρ ⟨p1, p2, p3⟩
        show RnI (ev (d + 10) 237 39 [(0, .ref 0), (1, .int (nI b)), (2, .int (nI n)), (3, .ref (fo true)), (4, .int (nI (wb W)))] [] (mkH ρ)) _
        rw [g_Main_later_39, p2.2.2.2.1.1, if_pos (nI_le (Nat.le_refl _) (by omega)), ixn (k := b) (by omega) (by decide), cond_true, cln (n := b) (by omega), (p2.2.2.1.1 b b1).1]
        exact RnI.mk ⟨p1, rfl, p3⟩
theorem M_later (hd : 400 ≤ d) (h : MWo W f σ) : RnI (ev d 76 0 [(0, .ref 50), (1, .int x1), (2, .int x2)] [] (mkH σ)) (fun τ x => Ag kQm σ τ ∧ x = (laS x1 x2 W f).1 ∧ MDx σ τ (laS x1 x2 W f).2) := by
  obtain ⟨d, rfl⟩ : ∃ e, d = e + 10 := ⟨d - 10, by omega⟩
  have w4 := h.1.1
  unfold laS
  have h1 : MWo W f (uI σ 3210 0) := h.nu rfl
  have a1 : Ag kQm σ (uI σ 3210 0) := Ag.I Ag.rf rfl
  rw [g_Model_later_0, c_Model_later_7 (N_isB h1.1 h1.2.2.1), g_Model_later_10]
  cases hx : ax_ix x1 (wb W) with
  | false => rw [cond_false, if_pos rfl, m1]; exact RnI.mk ⟨a1, rfl, rfl, rfl⟩
  | true =>
    rw [cond_true, if_neg (by decide), c_Model_later_17 N_inF, g_Model_later_20, cond_true]
    by_cases hi : inF x2 0 99 = 0
    · rw [if_pos hi, if_pos hi, m1]; exact RnI.mk ⟨a1, rfl, rfl, rfl⟩
    · obtain ⟨n, n1, n2, rfl⟩ := in_n hi (a := 0) (b := 99) rfl rfl (by decide) (by decide)
      obtain ⟨b, b1, b2, rfl⟩ := ix_of hx
      obtain ⟨τ, k1, k2, k3, k4⟩ := N_thenW (d := d + 3) (by omega) h1 (xn := nI n) rfl (by omega)
      rw [if_neg hi, if_neg hi, c_Model_later_27 k1, g_Model_later_30, cln (n := n) (by omega), cln (n := b) (by omega)]
      refine lpG (α := Sg) (n := wb W) (P := fun k ρ => Ag kQm σ ρ ∧ MW W ρ ∧ Lv W (sA ρ 62) (itF W f n).1 ∧ MD ρ (lstF (fun b => ((itF W f n).1 b).toInt64) k))
        (f := fun k ρ => ev (d + 10) 76 37 [(0, .ref 50), (1, .int (nI b)), (2, .int (nI n)), (3, .int (nI k))] [] (mkH ρ)) (Q := fun o => RnI o _) ?_ ?_ (wb W) 0 (uI τ 3209 0) (by omega) ⟨(a1.tr (k2.wk rfl)).tr (Ag.I Ag.rf rfl), (k4.nu rfl).2.2.1, k3, MD.nil⟩
      · rintro k ρ hk ⟨p1, p2, p3, p4⟩ nx
        show RnI (ev (d + 10) 76 37 [(0, .ref 50), (1, .int (nI b)), (2, .int (nI n)), (3, .int (nI k))] [] (mkH ρ)) _
        obtain ⟨ρ2, j1, j2, j3⟩ := N_tell (d := d + 8) (x := ((itF W f n).1 k).toInt64) p4 (by rw [lst_len]; omega)
        rw [g_Model_later_37, p2.1, if_neg (nI_ge hk (by omega)), ixn (k := k) (by omega) (by decide), cond_true, cln (n := k) (by omega), (p3.1 k hk).1, c_Model_later_53 j1, g_Model_later_56, nI_1]
        refine nx ρ2 ⟨p1.tr (j2.wk rfl), p2.ag j2 rfl, ?_, ?_⟩
        · rw [j2.2.1 62 rfl]; exact p3
        · rw [lst_s]; exact j3
      · rintro ρ ⟨p1, p2, p3, p4⟩
        show RnI (ev (d + 10) 76 37 [(0, .ref 50), (1, .int (nI b)), (2, .int (nI n)), (3, .int (nI (wb W)))] [] (mkH ρ)) _
        rw [g_Model_later_37, p2.1, if_pos (nI_le (Nat.le_refl _) (by omega)), ixn (k := b) (by omega) (by decide), cond_true, cln (n := b) (by omega), (p3.1 b b1).1]
        exact RnI.mk ⟨p1, rfl, p4⟩
theorem la_len (W : Wd) (f : Nat → Int32) (hW : WO W) : lenOk (laS x1 x2 W f).2 := by
  have := hW.1
  unfold laS
  cases ax_ix x1 (wb W)
  · exact True.intro
  · rw [cond_true]; split
    · exact True.intro
    · show (lstF _ _).length ≤ 9
      rw [lst_len]; omega
end LATER
theorem op_later : Op_later 400 INV := fun d hd k σ a1 a2 _ h => q_op (laS a1 a2) (fun W f hW _ => la_len W f hW) (fun d σ W f hd h => C_later hd h) (fun d σ W f hd h => M_later hd h) hd h
