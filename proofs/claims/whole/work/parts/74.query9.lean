/-! Questions: years -/
theorem ush_n {r : Int32} : ∃ a, a < 65536 ∧ ushF r 16 = nI a := by
  refine ⟨(Int32.toUInt32 r >>> (Int32.toUInt32 16 &&& Int32.toUInt32 31)).toNat, ?_, ?_⟩
  · rw [show Int32.toUInt32 16 &&& Int32.toUInt32 31 = 16 from by decide, UInt32.toNat_shiftRight, show (16 : UInt32).toNat % 32 = 16 from by decide, Nat.shiftRight_eq_div_pow]
    have := (Int32.toUInt32 r).toNat_lt
    omega
  · unfold ushF
    generalize Int32.toUInt32 r >>> (Int32.toUInt32 16 &&& Int32.toUInt32 31) = u
    refine Int32.toBitVec_inj.mp ?_
    show u.toBitVec = BitVec.ofNat 32 u.toNat
    exact BitVec.eq_of_toNat_eq (by rw [BitVec.toNat_ofNat]; exact (Nat.mod_eq_of_lt u.toBitVec.isLt).symm)
theorem div_nI {a k : Nat} (ha : a < 2147483648) (hk : k < 2147483648) : nI a / nI k = nI (a / k) := (Int32.ofNat_div (by omega) (by omega)).symm
theorem mod_nI {a k : Nat} (ha : a < 2147483648) (hk : k < 2147483648) : nI a - nI a / nI k * nI k = nI (a % k) := by
  rw [div_nI ha hk, show nI (a / k) * nI k = nI (a / k * k) from (Int32.ofNat_mul (a / k) k).symm, nI_sub (Nat.div_mul_le_self a k)]
  rw [show a - a / k * k = a % k by rw [Nat.mul_comm]; have := Nat.div_add_mod a k; omega]
def drF (r : Int32) : Int32 := r * 1103515245 + 12345
/-- what is drawn of n -/
def rmF (r : Int32) (n : Nat) : Int32 := ushF r 16 - ushF r 16 / nI n * nI n
theorem rm_n (r : Int32) {n : Nat} (h0 : 0 < n) (hn : n < 2147483648) : ∃ j, j < n ∧ rmF r n = nI j := by
  obtain ⟨a, a1, a2⟩ := ush_n (r := r)
  unfold rmF
  rw [a2, mod_nI (by omega) hn]
  exact ⟨a % n, Nat.mod_lt _ h0, rfl⟩
abbrev Ye : Type := (Nat → Int32) × Int32
def yeG (W : Wd) (s : Ye) : Ye := if 2 ≤ rmF (drF s.2) 4 then
    (if wp W = 0 then (s.1, drF s.2) else if rmF (drF s.2) 4 = 2 then (upd s.1 (25 + Int32.toNatClampNeg (rmF (drF (drF s.2)) (wp W))) (1 - s.1 (25 + Int32.toNatClampNeg (rmF (drF (drF s.2)) (wp W)))), drF (drF s.2))
     else ((if rcF W s.1 (rmF (drF (drF s.2)) (wp W)) (rmF (drF (drF (drF s.2))) (wb W)) = 0 then upd s.1 (16 + Int32.toNatClampNeg (rmF (drF (drF s.2)) (wp W))) (rmF (drF (drF (drF s.2))) (wb W)) else s.1), drF (drF (drF s.2))))
  else ((hrF W s.1).1, drF s.2)
def yeA (W : Wd) (f : Nat → Int32) (sd : Int32) (k : Nat) : Ye := accA (fun _ s => yeG W s) k (f, sd)
theorem accA_s {α : Type} {g : Nat → α → α} {k : Nat} {a : α} : accA g (k + 1) a = g k (accA g k a) := rfl
theorem yeA_s {W : Wd} {f : Nat → Int32} {sd : Int32} {k : Nat} : yeA W f sd (k + 1) = yeG W (yeA W f sd k) := by
  unfold yeA
  exact accA_s
section Q9
variable {d : Nat} {σ : Sg} {W : Wd} {f g : Nat → Int32} {x1 x2 : Int32}
theorem nb_pos (ho : OK W g) (hp : ¬ wp W = 0) : 0 < wb W := by
  have := ix_lt (ho.2 0 (by omega)).1
  omega
theorem z1_sub {x : Int32} (h : z1 x) : z1 (1 - x) := by
  rcases h with rfl | rfl
  · exact Or.inr (by decide)
  · exact Or.inl (by decide)
theorem ye_ok (hW : WO W) {s : Ye} (ho : OK W s.1) : OK W (yeG W s).1 := by
  have w4 := hW.1
  have w9 := hW.2.1
  unfold yeG
  split
  · split
    · exact ho
    · rename_i hp
      obtain ⟨p, p1, p2⟩ := rm_n (drF (drF s.2)) (n := wp W) (by omega) (by omega)
      split
      · rw [p2, cln (n := p) (by omega)]
        exact ho.awak hW (by omega) (z1_sub (ho.2 p p1).2.1)
      · dsimp only
        split
        · rw [p2, cln (n := p) (by omega)]
          obtain ⟨b, b1, b2⟩ := rm_n (drF (drF (drF s.2))) (n := wb W) (nb_pos ho hp) (by omega)
          rw [b2]
          exact ho.boat hW (by omega) (ixn b1 (by omega))
        · exact ho
  · exact hr_ok hW ho
theorem yeA_ok (hW : WO W) (ho : OK W f) {sd : Int32} : ∀ k, OK W (yeA W f sd k).1
  | 0 => ho
  | k + 1 => by rw [yeA_s]; exact ye_ok hW (yeA_ok hW ho k)
def yeS (x1 x2 : Int32) (W : Wd) (f : Nat → Int32) : Int32 × Option (List Int64) := if inF x2 1 60 = 0 then (-1, none) else (tmF W (yeA W f x1 (Int32.toNatClampNeg x2)).1, some [(bcF (awF W (yeA W f x1 (Int32.toNatClampNeg x2)).1)).toInt64, (brF W (yeA W f x1 (Int32.toNatClampNeg x2)).1).toInt64])
theorem K_draw {r : Int32} {n : Nat} {xn : Int32} (hr : sI σ 2752 = r) (hxn : xn = nI n) (h0 : 0 < n) (hn : n < 2147483648) : ev (d + 1) 132 0 [(0, .ref 43), (1, .int xn)] [] (mkH σ) = rI (uI σ 2752 (drF r)) (rmF (drF r) n) := by
  subst hxn
  rw [g_Draws_next_0, if_neg (nI_nle h0 (by omega)), if_neg (nI_ne0 h0 (by omega)), hr]; rfl
theorem N_draw {r : Int32} {n : Nat} {xn : Int32} (hr : sI σ 3238 = r) (hxn : xn = nI n) (h0 : 0 < n) (hn : n < 2147483648) : ev (d + 1) 117 0 [(0, .ref 50), (1, .int xn)] [] (mkH σ) = rI (uI σ 3238 (drF r)) (rmF (drF r) n) := by
  subst hxn
  rw [g_Model_draw_0, if_neg (nI_ne0 h0 (by omega)), hr]; rfl
theorem TR.upd {τ : Sg} {K : List Nat} {g2 : Nat → Int32} (h : TR W g σ) (a : Ag K σ τ) (ok2 : OK W g2) (f2 : FR W true τ g2) (hk : dj K (kCW true ++ [193, 10004, 30001] ++ kCR false ++ kCR true) = true) : TR W g2 τ := by
  have sub : ∀ L, L.all (fun x => (kCW true ++ [193, 10004, 30001] ++ kCR false ++ kCR true).contains x) = true → dj K L = true := by
    intro L hL
    refine List.all_eq_true.mpr (fun x hx => ?_)
    have h1 := List.all_eq_true.mp hL x hx
    have h2 := dj_m hk (List.contains_iff_mem.mp h1)
    show (!K.contains x) = true
    rw [h2]; rfl
  obtain ⟨h1, h2, h3, h4, h5, h6⟩ := h
  have e : sB τ (fb true) = sB σ (fb true) := a.2.2.2.1 1 (dj_m hk (by decide))
  refine ⟨h1, ok2, f2, h4.ag a (sub _ (by decide)), h5.ag a (sub _ (by decide)), ?_⟩
  rw [e]
  exact h6.ag a (sub _ (by generalize sB σ (fb true) = u; cases u <;> decide))
theorem C_years (hd : 400 ≤ d) (h : CWo W f σ) : RnI (ev d 267 0 [(0, .ref 0), (1, .int x1), (2, .int x2)] [] (mkH σ)) (fun τ x => Ag kQc σ τ ∧ x = (yeS x1 x2 W f).1 ∧ TDx σ τ (yeS x1 x2 W f).2) := by
  obtain ⟨d, rfl⟩ : ∃ e, d = e + 10 := ⟨d - 10, by omega⟩
  have w4 := h.1.1
  have w9 := h.1.2.1
  unfold yeS
  rw [g_Main_years_0, c_Main_years_4 K_in, g_Main_years_7]
  by_cases hi : inF x2 1 60 = 0
  · rw [if_pos hi, if_pos hi, m1]; exact RnI.mk ⟨Ag.rf, rfl, rfl, rfl⟩
  · obtain ⟨n, n1, n2, rfl⟩ := in_n hi (a := 1) (b := 60) rfl rfl (by decide) (by decide)
    obtain ⟨τ, k1, k2, k3, k4⟩ := K_copy (d := d + 8) h
    have a1 : Ag [2752] τ (uI τ 2752 x1) := Ag.I Ag.rf rfl
    rw [if_neg hi, if_neg hi, c_Main_years_20 k1, g_Main_years_23, c_Main_years_28 (g_Draws_start_0 (d := d + 8)), g_Main_years_31, cln (n := n) (by omega)]
    refine lpG (α := Sg) (n := n) (P := fun k ρ => Ag kQc σ ρ ∧ TR W (yeA W f x1 k).1 ρ ∧ sI ρ 2752 = (yeA W f x1 k).2)
      (f := fun k ρ => ev (d + 10) 267 33 [(0, .ref 0), (1, .int x1), (2, .int (nI n)), (3, .int (nI k))] [] (mkH ρ)) (Q := fun o => RnI o _) ?_ ?_ n 0 (uI τ 2752 x1) (by omega) ⟨(k2.wk rfl).tr (a1.wk rfl), k3.agH a1 rfl, I_S⟩
    · rintro k ρ hk ⟨p1, p2, p3⟩ nx
      show RnI (ev (d + 10) 267 33 [(0, .ref 0), (1, .int x1), (2, .int (nI n)), (3, .int (nI k))] [] (mkH ρ)) _
      have nx : ∀ ρ2, Ag kQc σ ρ2 ∧ TR W (yeA W f x1 (k + 1)).1 ρ2 ∧ sI ρ2 2752 = (yeA W f x1 (k + 1)).2 → RnI (ev (d + 10) 267 33 [(0, .ref 0), (1, .int x1), (2, .int (nI n)), (3, .int (nI (k + 1)))] [] (mkH ρ2)) _ := nx
      rw [yeA_s] at nx
      have hok := ye_ok h.1 (s := yeA W f x1 k) p2.2.1
      generalize yeA W f x1 k = s at p2 p3 nx hok
      rw [g_Main_years_33, if_neg (nI_ge hk (by omega)), c_Main_years_43 (K_draw (n := 4) (xn := 4) p3 rfl (by decide) (by decide)), g_Main_years_46]
      have b1 : Ag [2752] ρ (uI ρ 2752 (drF s.2)) := Ag.I Ag.rf rfl
      have q1 : Ag kQc σ (uI ρ 2752 (drF s.2)) := p1.tr (b1.wk rfl)
      have q2 := p2.agH b1 rfl
      unfold yeG at nx hok
      by_cases c1 : 2 ≤ rmF (drF s.2) 4
      · rw [if_pos c1] at nx hok
        rw [if_pos c1, show sI (uI ρ 2752 (drF s.2)) 1486 = nI (wp W) from q2.2.2.2.1.2.1]
        by_cases c2 : wp W = 0
        · rw [if_pos c2] at nx
          rw [c2, if_pos (by decide), nI_1]
          exact nx _ ⟨q1, q2, I_S⟩
        · rw [if_neg c2] at nx hok
          have hnb := nb_pos p2.2.1 c2
          obtain ⟨p, pp1, pp2⟩ := rm_n (drF (drF s.2)) (n := wp W) (by omega) (by omega)
          rw [if_neg (nI_nle (by omega) (by omega)), c_Main_years_87 (K_draw (σ := uI ρ 2752 (drF s.2)) (r := drF s.2) (n := wp W) I_S rfl (by omega) (by omega)), g_Main_years_90]
          have b2 : Ag [2752] ρ (uI (uI ρ 2752 (drF s.2)) 2752 (drF (drF s.2))) := Ag.I b1 rfl
          generalize hρ2 : uI (uI ρ 2752 (drF s.2)) 2752 (drF (drF s.2)) = ρ2 at b2
          have e2 : sI ρ2 2752 = drF (drF s.2) := by rw [← hρ2]; exact I_S
          have q3 : Ag kQc σ ρ2 := p1.tr (b2.wk rfl)
          have q4 := p2.agH b2 rfl
          by_cases c3 : rmF (drF s.2) 4 = 2
          · rw [if_pos c3] at nx hok
            have hwk := F_wake (d := d + 7) (w := true) (x := rmF (drF (drF s.2)) (wp W)) q4.1 q4.2.1 q4.2.2.1 q4.2.2.2.1
            rw [pp2, ixn pp1 (by omega), cond_true, cln (n := p) (by omega)] at hwk
            rw [pp2, cln (n := p) (by omega)] at nx hok
            rw [if_pos c3, pp2, c_Main_years_104 hwk, g_Main_years_107, nI_1]
            have b3 : Ag [10034] ρ2 (uA ρ2 34 p (1 - s.1 (25 + p))) := Ag.A Ag.rf rfl
            refine nx _ ⟨q3.tr (b3.wk rfl), q4.upd b3 hok (q4.2.2.1.awak q4.1 (by omega)) rfl, ?_⟩
            exact e2
          · rw [if_neg c3] at nx hok
            obtain ⟨b, bb1, bb2⟩ := rm_n (drF (drF (drF s.2))) (n := wb W) hnb (by omega)
            have b3 : Ag [2752] ρ2 (uI ρ2 2752 (drF (drF (drF s.2)))) := Ag.I Ag.rf rfl
            rw [if_neg c3, show sI ρ2 1477 = nI (wb W) from q4.2.2.2.1.1, c_Main_years_128 (K_draw (σ := ρ2) (r := drF (drF s.2)) (n := wb W) e2 rfl hnb (by omega))]
            generalize hρ3 : uI ρ2 2752 (drF (drF (drF s.2))) = ρ3 at b3
            have e3 : sI ρ3 2752 = drF (drF (drF s.2)) := by rw [← hρ3]; exact I_S
            have q5 : Ag kQc σ ρ3 := q3.tr (b3.wk rfl)
            have q6 := q4.agH b3 rfl
            have hch := F_change (d := d + 6) (w := true) (x := rmF (drF (drF s.2)) (wp W)) (y := rmF (drF (drF (drF s.2))) (wb W)) q6.1 q6.2.1 q6.2.2.1 q6.2.2.2.1
            rw [pp2, bb2, cln (n := p) (by omega)] at nx hok
            rw [pp2, bb2, cln (n := p) (by omega)] at hch
            rw [pp2, bb2]
            by_cases c4 : rcF W s.1 (nI p) (nI b) = 0
            · rw [if_pos c4] at hch hok
              have nx : ∀ ρ2, Ag kQc σ ρ2 ∧ TR W (if rcF W s.1 (nI p) (nI b) = 0 then upd s.1 (16 + p) (nI b) else s.1) ρ2 ∧ sI ρ2 2752 = drF (drF (drF s.2)) → RnI (ev (d + 10) 267 33 [(0, .ref 0), (1, .int x1), (2, .int (nI n)), (3, .int (nI (k + 1)))] [] (mkH ρ2)) _ := nx
              rw [if_pos c4] at nx
              rw [c_Main_years_131 hch, g_Main_years_134, nI_1]
              have b4 : Ag [10033] ρ3 (uA ρ3 33 p (nI b)) := Ag.A Ag.rf rfl
              exact nx _ ⟨q5.tr (b4.wk rfl), q6.upd b4 hok (q6.2.2.1.boat q6.1 (by omega)) rfl, e3⟩
            · rw [if_neg c4] at hch
              have nx : ∀ ρ2, Ag kQc σ ρ2 ∧ TR W (if rcF W s.1 (nI p) (nI b) = 0 then upd s.1 (16 + p) (nI b) else s.1) ρ2 ∧ sI ρ2 2752 = drF (drF (drF s.2)) → RnI (ev (d + 10) 267 33 [(0, .ref 0), (1, .int x1), (2, .int (nI n)), (3, .int (nI (k + 1)))] [] (mkH ρ2)) _ := nx
              rw [if_neg c4] at nx
              rw [c_Main_years_131 hch, g_Main_years_134, nI_1]
              exact nx ρ3 ⟨q5, q6, e3⟩
      · rw [if_neg c1] at nx
        obtain ⟨ρ2, y, t1, t2, t3, t4⟩ := K_pass (d := d + 3) q2 (n := 1) (xn := 1) rfl (by decide)
        rw [if_neg c1, c_Main_years_59 t1, g_Main_years_62, nI_1]
        exact nx ρ2 ⟨q1.tr (t2.wk rfl), t3, (t2.1 2752 rfl).trans I_S⟩
    · rintro ρ ⟨p1, p2, p3⟩
      show RnI (ev (d + 10) 267 33 [(0, .ref 0), (1, .int x1), (2, .int (nI n)), (3, .int (nI n))] [] (mkH ρ)) _
      obtain ⟨ρ2, t1, t2, t3⟩ := T_two (d := d + 7) (σ := ρ) (x := (bcF (awF W (yeA W f x1 n).1)).toInt64) (y := (brF W (yeA W f x1 n).1).toInt64)
      have p2' := p2.agH t2 rfl
      rw [g_Main_years_33, if_pos (nI_le (Nat.le_refl n) (by omega)), c_Main_years_149 (F_awkF (w := true) p2.1 p2.2.2.1 p2.2.2.2.1), c_Main_years_152 bc_ev, g_Main_years_155, c_Main_years_160 (F_brF (w := true) p2.1 p2.2.2.1 p2.2.2.2.1), g_Main_years_163, c_Main_years_164 t1, g_Main_years_167, c_Main_years_171 (F_arrF (w := true) p2'.1 p2'.2.2.1 p2'.2.2.2.1), g_Main_years_174]
      exact RnI.mk ⟨p1.tr (t2.wk rfl), rfl, t3⟩
theorem M_years (hd : 400 ≤ d) (h : MWo W f σ) : RnI (ev d 118 0 [(0, .ref 50), (1, .int x1), (2, .int x2)] [] (mkH σ)) (fun τ x => Ag kQm σ τ ∧ x = (yeS x1 x2 W f).1 ∧ MDx σ τ (yeS x1 x2 W f).2) := by
  obtain ⟨d, rfl⟩ : ∃ e, d = e + 10 := ⟨d - 10, by omega⟩
  have w4 := h.1.1
  have w9 := h.1.2.1
  unfold yeS
  have h1 : MWo W f (uI σ 3210 0) := h.nu rfl
  have a0 : Ag kQm σ (uI σ 3210 0) := Ag.I Ag.rf rfl
  rw [g_Model_years_0, c_Model_years_9 N_inF, g_Model_years_12]
  by_cases hi : inF x2 1 60 = 0
  · rw [if_pos hi, if_pos hi, m1]; exact RnI.mk ⟨a0, rfl, rfl, rfl⟩
  · obtain ⟨n, n1, n2, rfl⟩ := in_n hi (a := 1) (b := 60) rfl rfl (by decide) (by decide)
    have h2 : MWo W f (uI (uI σ 3210 0) 3238 x1) := h1.nu rfl
    obtain ⟨τ, k1, k2, k3, k4⟩ := N_layW (d := d + 8) h2
    rw [if_neg hi, if_neg hi, c_Model_years_31 k1, g_Model_years_34, cln (n := n) (by omega)]
    refine lpG (α := Sg) (n := n) (P := fun k ρ => Ag kQm σ ρ ∧ MWo W f ρ ∧ Lv W (sA ρ 62) (yeA W f x1 k).1 ∧ sI ρ 3238 = (yeA W f x1 k).2)
      (f := fun k ρ => ev (d + 10) 118 36 [(0, .ref 50), (1, .int x1), (2, .int (nI n)), (3, .int (nI k))] [] (mkH ρ)) (Q := fun o => RnI o _) ?_ ?_ n 0 τ (by omega) ⟨(a0.tr (Ag.I Ag.rf rfl)).tr (k2.wk rfl), k4, k3, k2.1 3238 rfl⟩
    · rintro k ρ hk ⟨p1, p2, p25, p3⟩ nx
      show RnI (ev (d + 10) 118 36 [(0, .ref 50), (1, .int x1), (2, .int (nI n)), (3, .int (nI k))] [] (mkH ρ)) _
      have nx : ∀ ρ2, Ag kQm σ ρ2 ∧ MWo W f ρ2 ∧ Lv W (sA ρ2 62) (yeA W f x1 (k + 1)).1 ∧ sI ρ2 3238 = (yeA W f x1 (k + 1)).2 → RnI (ev (d + 10) 118 36 [(0, .ref 50), (1, .int x1), (2, .int (nI n)), (3, .int (nI (k + 1)))] [] (mkH ρ2)) _ := nx
      rw [yeA_s] at nx
      have hok0 := yeA_ok h.1 h.2.1 (sd := x1) k
      generalize yeA W f x1 k = s at p25 p3 nx hok0
      rw [g_Model_years_36, if_neg (nI_ge hk (by omega)), c_Model_years_43 (N_draw (n := 4) (xn := 4) p3 rfl (by decide) (by decide)), g_Model_years_46]
      have b1 : Ag [3238] ρ (uI ρ 3238 (drF s.2)) := Ag.I Ag.rf rfl
      have q1 : Ag kQm σ (uI ρ 3238 (drF s.2)) := p1.tr (b1.wk rfl)
      have q2 := p2.ag b1 rfl
      have q25 : Lv W (sA (uI ρ 3238 (drF s.2)) 62) s.1 := p25
      unfold yeG at nx
      by_cases c1 : 2 ≤ rmF (drF s.2) 4
      · rw [if_pos c1] at nx
        rw [if_pos c1, if_neg (Int32.not_lt.mpr c1), q2.2.2.1.2.1]
        by_cases c2 : wp W = 0
        · rw [if_pos c2] at nx
          rw [c2, if_pos nI_0, nI_1]
          exact nx _ ⟨q1, q2, q25, I_S⟩
        · rw [if_neg c2] at nx
          have hnb := nb_pos hok0 c2
          obtain ⟨p, pp1, pp2⟩ := rm_n (drF (drF s.2)) (n := wp W) (by omega) (by omega)
          rw [if_neg (nI_ne0 (by omega) (by omega)), c_Model_years_83 (N_draw (σ := uI ρ 3238 (drF s.2)) (r := drF s.2) (n := wp W) I_S rfl (by omega) (by omega)), g_Model_years_86]
          have b2 : Ag [3238] ρ (uI (uI ρ 3238 (drF s.2)) 3238 (drF (drF s.2))) := Ag.I b1 rfl
          generalize hρ2 : uI (uI ρ 3238 (drF s.2)) 3238 (drF (drF s.2)) = ρ2 at b2
          have e2 : sI ρ2 3238 = drF (drF s.2) := by rw [← hρ2]; exact I_S
          have q3 : Ag kQm σ ρ2 := p1.tr (b2.wk rfl)
          have q4 := p2.ag b2 rfl
          have l4 : Lv W (sA ρ2 62) s.1 := by rw [b2.2.1 62 rfl]; exact p25
          by_cases c3 : rmF (drF s.2) 4 = 2
          · rw [if_pos c3] at nx
            rw [pp2, cln (n := p) (by omega)] at nx
            rw [if_pos c3, pp2, add25, ixn (k := 25 + p) (by omega) (by decide), cond_true, cond_true, cln (n := 25 + p) (by omega), (l4.2.1 p pp1).2.1, nI_1]
            have b3 : Ag [10062] ρ2 (uA ρ2 62 (25 + p) (1 - s.1 (25 + p))) := Ag.A Ag.rf rfl
            exact nx _ ⟨q3.tr (b3.wk rfl), q4.ag b3 rfl, l4.a62, e2⟩
          · rw [if_neg c3] at nx
            obtain ⟨b, bb1, bb2⟩ := rm_n (drF (drF (drF s.2))) (n := wb W) hnb (by omega)
            have b3 : Ag [3238] ρ2 (uI ρ2 3238 (drF (drF (drF s.2)))) := Ag.I Ag.rf rfl
            rw [if_neg c3, q4.2.2.1.1, c_Model_years_124 (N_draw (σ := ρ2) (r := drF (drF s.2)) (n := wb W) e2 rfl hnb (by omega)), g_Model_years_127]
            generalize hρ3 : uI ρ2 3238 (drF (drF (drF s.2))) = ρ3 at b3
            have e3 : sI ρ3 3238 = drF (drF (drF s.2)) := by rw [← hρ3]; exact I_S
            have q5 : Ag kQm σ ρ3 := q3.tr (b3.wk rfl)
            have q6 := q4.ag b3 rfl
            have l6 : Lv W (sA ρ3 62) s.1 := by rw [b3.2.1 62 rfl]; exact l4
            rw [pp2, bb2, cln (n := p) (by omega)] at nx
            rw [pp2, bb2, c_Model_years_138 (N_refC (v := true) h.1 q6.2.2.1 hok0 l6), g_Model_years_141]
            have nx : ∀ ρ2, Ag kQm σ ρ2 ∧ MWo W f ρ2 ∧ Lv W (sA ρ2 62) (if rcF W s.1 (nI p) (nI b) = 0 then upd s.1 (16 + p) (nI b) else s.1) ∧ sI ρ2 3238 = drF (drF (drF s.2)) → RnI (ev (d + 10) 118 36 [(0, .ref 50), (1, .int x1), (2, .int (nI n)), (3, .int (nI (k + 1)))] [] (mkH ρ2)) _ := nx
            by_cases c4 : rcF W s.1 (nI p) (nI b) = 0
            · rw [if_pos c4] at nx
              rw [if_pos c4, add16, ixn (k := 16 + p) (by omega) (by decide), cond_true, cln (n := 16 + p) (by omega), nI_1]
              have b4 : Ag [10062] ρ3 (uA ρ3 62 (16 + p) (nI b)) := Ag.A Ag.rf rfl
              exact nx _ ⟨q5.tr (b4.wk rfl), q6.ag b4 rfl, l6.a62, e3⟩
            · rw [if_neg c4] at nx
              rw [if_neg c4, nI_1]
              exact nx ρ3 ⟨q5, q6, l6, e3⟩
      · rw [if_neg c1] at nx
        obtain ⟨ρ2, t1, t2, t3, t4⟩ := N_hourW (d := d + 5) (by omega) q2 hok0 q25
        rw [if_neg c1, c_Model_years_59 t1, g_Model_years_62, if_pos (Int32.not_le.mp c1), nI_1]
        exact nx ρ2 ⟨q1.tr (t2.wk rfl), t4, t3, (t2.1 3238 rfl).trans I_S⟩
    · rintro ρ ⟨p1, p2, p25, p3⟩
      show RnI (ev (d + 10) 118 36 [(0, .ref 50), (1, .int x1), (2, .int (nI n)), (3, .int (nI n))] [] (mkH ρ)) _
      have hok0 := yeA_ok h.1 h.2.1 (sd := x1) n
      have m0 := p2.nu (n := 3209) (x := 0) rfl
      obtain ⟨ρ2, t1, t2, t3⟩ := N_tell1 (d := d + 8) (σ := ρ) (x := (bcF (awF W (yeA W f x1 n).1)).toInt64)
      have m2 := p2.ag t2 rfl
      have l2 : Lv W (sA ρ2 62) (yeA W f x1 n).1 := by rw [t2.2.1 62 rfl]; exact p25
      obtain ⟨ρ3, u1, u2, u3⟩ := N_tell2 (d := d + 8) (y := (brF W (yeA W f x1 n).1).toInt64) t3
      have m3 := m2.ag u2 rfl
      have l3 : Lv W (sA ρ3 62) (yeA W f x1 n).1 := by rw [u2.2.1 62 rfl]; exact l2
      rw [g_Model_years_36, if_pos (nI_le (Nat.le_refl n) (by omega)), c_Model_years_173 (N_awake (v := true) (σ := uI ρ 3209 0) h.1 m0.2.2.1 hok0 p25), c_Model_years_176 bc_ev, g_Model_years_179, c_Model_years_180 t1, g_Model_years_183, c_Model_years_189 (N_breath (v := true) h.1 m2.2.2.1 l2), g_Model_years_192, c_Model_years_193 u1, g_Model_years_196, c_Model_years_201 (N_thereM (v := true) h.1 m3.2.2.1 hok0 l3), g_Model_years_204]
      exact RnI.mk ⟨(p1.tr (t2.wk rfl)).tr (u2.wk rfl), rfl, u3⟩
end Q9
theorem op_years : Op_years 400 INV := fun d hd k σ a1 a2 _ h => q_op (yeS a1 a2) (fun W f hW _ => by
  unfold yeS; split
  · exact True.intro
  · show 2 ≤ 9
    decide) (fun d σ W f hd h => C_years hd h) (fun d σ W f hd h => M_years hd h) hd h
