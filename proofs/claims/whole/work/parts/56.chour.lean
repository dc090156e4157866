/-! An hour, by the class -/
def kMS (w : Bool) : List Nat := [10000 + fa w 4, 10000 + fa w 5, 10000 + fa w 12]
theorem MS.ag {W : Wd} {w : Bool} {σ τ : Sg} {f : Nat → Int32} {K : List Nat} (h : MS W f w σ) (g : Ag K σ τ) (hk : dj K (kMS w) = true) : MS W f w τ := by
  have a0 := g.2.1 (fa w 4) (dj_m hk (by simp [kMS]))
  have a1 := g.2.1 (fa w 5) (dj_m hk (by simp [kMS]))
  have a2 := g.2.1 (fa w 12) (dj_m hk (by simp [kMS]))
  unfold MS
  rw [a0, a1, a2]
  exact h
theorem le_cl {t : Int32} {k : Nat} (hk : k < 2147483648) : t ≤ nI k ↔ Int32.toNatClampNeg t ≤ k := by
  by_cases h : t < 0
  · have h1 : Int32.toNatClampNeg t = 0 := by
      show t.toInt.toNat = 0
      rw [Int32.lt_iff_toInt_lt, show (0 : Int32).toInt = 0 from by decide] at h
      omega
    rw [Int32.lt_iff_toInt_lt, show (0 : Int32).toInt = 0 from by decide] at h
    rw [h1, Int32.le_iff_toInt_le, nI_toInt (by omega)]
    omega
  · obtain ⟨j, hj, rfl⟩ := nI_of h
    rw [show Int32.toNatClampNeg (nI j) = j from nI_clamp hj]
    exact nI_leI hj (by omega)
theorem FR.cell {W : Wd} {w : Bool} {σ : Sg} {g : Nat → Int32} {b : Nat} {x : Int32} (h : FR W w σ g) (hb : b < 4) : FR W w (uA σ (fa w 0) b x) (upd g b x) := by
  refine ⟨fun c hc => ?_, fun p hp => ?_, ?_⟩
  · obtain ⟨h1, h2, h3, h4⟩ := h.1 c hc
    rw [A_at, rd (i := 0) (j := 1) (by decide), rd (i := 0) (j := 2) (by decide), rd (i := 0) (j := 3) (by decide), upN (show 4 + c ≠ b by omega), upN (show 8 + c ≠ b by omega), upN (show 12 + c ≠ b by omega)]
    refine ⟨?_, h2, h3, h4⟩
    rw [h1]; rfl
  · rw [rd (i := 0) (j := 9) (by decide), rd (i := 0) (j := 10) (by decide), rd (i := 0) (j := 11) (by decide), upN (show 16 + p ≠ b by omega), upN (show 25 + p ≠ b by omega), upN (show 34 + p ≠ b by omega)]
    exact h.2.1 p hp
  · rw [upN (show 43 ≠ b by omega)]; exact h.2.2
theorem FR.nu {W : Wd} {w : Bool} {σ : Sg} {g : Nat → Int32} {n : Nat} {x : Int32} (h : FR W w σ g) (hn : fi w 2 ≠ n) : FR W w (uI σ n x) g := ⟨h.1, h.2.1, by rw [I_I hn]; exact h.2.2⟩
def kG (w : Bool) : List Nat := [10000 + fa w 0, fi w 3, fi w 4]
section CHOUR
variable {d : Nat} {σ : Sg} {w : Bool} {W : Wd} {f g wd : Nat → Int32} {b o : Nat}
theorem F_onF (hW : WO W) (hf : FR W w σ g) {x : Int32} : ev (d + 1) 145 0 [(0, .ref (fo w)), (1, .int x), (2, .int (nI (wb W)))] [] (mkH σ) = rI σ (onF W g x) := by
  rw [F_on hW.1]
  have e : fndF (fun b => sA σ (fa w 0) b == x) (wb W) 0 = onF W g x := fndF_congr _ _ (fun i _ hi => by rw [(hf.1 i (by omega)).1])
  rw [e]
theorem F_blow (hW : WO W) (hf : FR W w σ g) (hc : CW W w σ) (hcc : CC W σ) (hwd : ∀ b, b < wb W → sA σ (fa w 4) b = wd b) (hb : b < wb W) (hoo : o < wb W) :
    ev (d + 3) 161 0 [(0, .ref (fo w)), (1, .int (nI b)), (2, .int (nI o))] [] (mkH σ) = bif yiF W wd g b o && clF W g (nxF (g o) (g (4 + b))) then rI (uI (uA σ (fa w 0) o (nxF (g o) (g (4 + b)))) (fi w 4) (sI σ (fi w 4) + 1)) 1 else rI σ 0 := by
  have w4 := hW.1
  rw [g_Fleet_blowBack_0, ixn (by omega) (by decide), cond_true, cln (by omega), c_Fleet_blowBack_8 (F_step (by omega)), g_Fleet_blowBack_11, (hf.1 o hoo).1, (hf.1 b hb).2.1, nx_add]
  simp only [ixn (show b < 4 by omega) (show 4 < 2147483648 by decide), ixn (show o < 4 by omega) (show 4 < 2147483648 by decide), cond_true, cln (show b < 2147483648 by omega), cln (show o < 2147483648 by omega), (hf.1 o hoo).2.1, (hf.1 o hoo).2.2.2, (hf.1 b hb).2.1, hwd o hoo, hwd b hb]
  unfold yiF
  by_cases c1 : g (12 + o) = 0
  · rw [if_pos c1, beq_t c1]
    by_cases c2 : g (4 + o) = g (4 + b)
    · rw [if_pos c2, beq_t c2]; rfl
    · rw [if_neg c2, beq_f c2]
      by_cases c3 : wd o < wd b
      · rw [if_pos c3, decide_eq_true c3, c_Fleet_blowBack_59 (C_has hcc.1 (by have := hW.2.2.2.1; omega)), g_Fleet_blowBack_62]
        unfold clF
        generalize nxF (g o) (g (4 + b)) = h
        cases hx : ax_ix h (wc W) with
        | false => rw [cond_false, if_pos rfl]; rfl
        | true =>
          rw [cond_true, if_neg (by decide), c_Fleet_blowBack_70 (C_lock hcc hW), hx, cond_true, g_Fleet_blowBack_73]
          by_cases c4 : 0 < wK W (Int32.toNatClampNeg h)
          · rw [show mxF 0 (wK W (Int32.toNatClampNeg h)) = wK W (Int32.toNatClampNeg h) from if_pos c4, if_pos c4, decide_eq_true c4]; rfl
          · rw [show mxF 0 (wK W (Int32.toNatClampNeg h)) = 0 from if_neg c4, if_neg (by decide), decide_eq_false c4, hc.1, c_Fleet_blowBack_82 (F_onF hW hf), g_Fleet_blowBack_85]
            rcases on_cases (f := g) (c := h) hW with e | ⟨i, h1, h2, h3⟩
            · rw [e, if_pos (by decide), ixn (by omega) (by decide), cond_true, cln (by omega)]; rfl
            · rw [h3, if_neg (nI_pos (by omega)), beq_f (nI_nm1 (by omega))]; rfl
      · rw [if_neg c3, decide_eq_false c3]; rfl
  · rw [if_neg c1, beq_f c1]; rfl
theorem lk_le {k h : Int32} {j : Nat} (hj : j < 2147483648) (hh : h = nI j) : mxF 0 k ≤ h ↔ k ≤ h := by
  unfold mxF
  split
  · exact Iff.rfl
  · rename_i c
    subst hh
    rw [Int32.lt_iff_toInt_lt, show (0 : Int32).toInt = 0 from by decide] at c
    rw [Int32.le_iff_toInt_le, Int32.le_iff_toInt_le, nI_toInt (by omega), show (0 : Int32).toInt = 0 from by decide]
    omega
theorem F_go {q : Qs} (hW : WO W) (ho : OK W f) (hg : Gd W f q) (hf : FR W w σ q.1) (hc : CW W w σ) (hcc : CC W σ) (hm : MS W f w σ) (hb : b < wb W) {we bl : Int32} (h3 : sI σ (fi w 3) = we + q.2.1) (h4 : sI σ (fi w 4) = bl + q.2.2) :
    RnV (ev (d + 4) 160 0 [(0, .ref (fo w)), (1, .int (nI b))] [] (mkH σ)) (fun τ => Ag (kG w) σ τ ∧ FR W w τ (rnF W (wiF W f) (hoF W f) b (Int32.toNatClampNeg (tiF (wiF W f) b)) q).1 ∧ sI τ (fi w 3) = we + (rnF W (wiF W f) (hoF W f) b (Int32.toNatClampNeg (tiF (wiF W f) b)) q).2.1 ∧ sI τ (fi w 4) = bl + (rnF W (wiF W f) (hoF W f) b (Int32.toNatClampNeg (tiF (wiF W f) b)) q).2.2) := by
  have w4 := hW.1
  have w30 := hW.2.2.2.1
  have t3 : Int32.toNatClampNeg (tiF (wiF W f) b) ≤ 3 := ti_3
  rw [g_Fleet_go_0, ixn (by omega) (by decide), cond_true, cln (by omega), (hm.1 b hb).1, c_Fleet_go_17 (F_step (by omega)), g_Fleet_go_20, (hf.1 b hb).2.1, hg.2 (4 + b) (by omega)]
  refine lpG (α := Sg × Qs) (n := Int32.toNatClampNeg (tiF (wiF W f) b)) (P := fun k a => Gd W f a.2 ∧ FR W w a.1 a.2.1 ∧ sI a.1 (fi w 3) = we + a.2.2.1 ∧ sI a.1 (fi w 4) = bl + a.2.2.2 ∧ Ag (kG w) σ a.1 ∧ rnF W (wiF W f) (hoF W f) b (Int32.toNatClampNeg (tiF (wiF W f) b) - k) a.2 = rnF W (wiF W f) (hoF W f) b (Int32.toNatClampNeg (tiF (wiF W f) b)) q)
    (f := fun k a => ev (d + 4) 160 24 [(0, .ref (fo w)), (1, .int (nI b)), (2, .int (tiF (wiF W f) b)), (3, .int (if f (4 + b) = 0 then 1 else -1)), (4, .int (nI k))] [] (mkH a.1)) (Q := fun o => RnV o _) ?_ ?_ (Int32.toNatClampNeg (tiF (wiF W f) b)) 0 (σ, q) (by omega) ⟨hg, hf, h3, h4, Ag.rf, rfl⟩
  · rintro k ⟨ρ, q1⟩ hk ⟨p1, p2, p3, p4, p5, p6⟩ nx
    have p1 : Gd W f q1 := p1
    have p2 : FR W w ρ q1.1 := p2
    have p3 : sI ρ (fi w 3) = we + q1.2.1 := p3
    have p4 : sI ρ (fi w 4) = bl + q1.2.2 := p4
    have p5 : Ag (kG w) σ ρ := p5
    show RnV (ev (d + 4) 160 24 [(0, .ref (fo w)), (1, .int (nI b)), (2, .int (tiF (wiF W f) b)), (3, .int (if f (4 + b) = 0 then 1 else -1)), (4, .int (nI k))] [] (mkH ρ)) _
    have hm' := hm.ag p5 (by cases w <;> rfl)
    have hc' := hc.ag p5 (by cases w <;> rfl)
    have hcc' := hcc.ag p5 (by cases w <;> rfl)
    rw [show Int32.toNatClampNeg (tiF (wiF W f) b) - k = (Int32.toNatClampNeg (tiF (wiF W f) b) - (k + 1)) + 1 by omega] at p6
    have p6 : (match stF W (wiF W f) (hoF W f) b q1 with | none => q1 | some q' => rnF W (wiF W f) (hoF W f) b (Int32.toNatClampNeg (tiF (wiF W f) b) - (k + 1)) q') = _ := p6
    have e4 : q1.1 (4 + b) = f (4 + b) := p1.2 _ (by omega)
    have eto : q1.1 b + (if f (4 + b) = 0 then 1 else -1) = toF q1.1 b := by rw [nx_add, ← e4]; rfl
    have hae := ae_ix hW (p1.1.1 b hb).1 (p1.1.1 b hb).2.1
    rw [g_Fleet_go_24, if_neg (fun z => by have := (le_cl (by omega)).mp z; omega), ixn (by omega) (by decide), cond_true, cln (by omega), (p2.1 b hb).1, eto, c_Fleet_go_46 (C_has hcc'.1 (by omega)), g_Fleet_go_49]
    have stop : stF W (wiF W f) (hoF W f) b q1 = none → RnV (rV ρ) (fun τ => Ag (kG w) σ τ ∧ FR W w τ (rnF W (wiF W f) (hoF W f) b (Int32.toNatClampNeg (tiF (wiF W f) b)) q).1 ∧ sI τ (fi w 3) = we + (rnF W (wiF W f) (hoF W f) b (Int32.toNatClampNeg (tiF (wiF W f) b)) q).2.1 ∧ sI τ (fi w 4) = bl + (rnF W (wiF W f) (hoF W f) b (Int32.toNatClampNeg (tiF (wiF W f) b)) q).2.2) := by
      intro hs
      rw [hs] at p6
      have p6 : q1 = _ := p6
      rw [← p6]
      exact RnV.mk ⟨p5, p2, p3, p4⟩
    have goon : ∀ q2 ρ2, stF W (wiF W f) (hoF W f) b q1 = some q2 → FR W w ρ2 q2.1 → sI ρ2 (fi w 3) = we + q2.2.1 → sI ρ2 (fi w 4) = bl + q2.2.2 → Ag (kG w) ρ ρ2 → RnV (ev (d + 4) 160 24 [(0, .ref (fo w)), (1, .int (nI b)), (2, .int (tiF (wiF W f) b)), (3, .int (if f (4 + b) = 0 then 1 else -1)), (4, .int (nI (k + 1)))] [] (mkH ρ2)) (fun τ => Ag (kG w) σ τ ∧ FR W w τ (rnF W (wiF W f) (hoF W f) b (Int32.toNatClampNeg (tiF (wiF W f) b)) q).1 ∧ sI τ (fi w 3) = we + (rnF W (wiF W f) (hoF W f) b (Int32.toNatClampNeg (tiF (wiF W f) b)) q).2.1 ∧ sI τ (fi w 4) = bl + (rnF W (wiF W f) (hoF W f) b (Int32.toNatClampNeg (tiF (wiF W f) b)) q).2.2) := by
      intro q2 ρ2 hs k1 k2 k3 k4
      rw [hs] at p6
      exact nx (ρ2, q2) ⟨(st_gd hW hb p1 hs).1, k1, k2, k3, p5.tr k4, p6⟩
    unfold stF at stop goon
    rw [hae] at stop goon
    cases hx : ax_ix (toF q1.1 b) (wc W) with
    | false =>
      rw [cond_false, if_pos rfl]
      exact stop (by rw [hx]; rfl)
    | true =>
      rw [hx] at stop goon
      rw [cond_true, if_neg (by decide), c_Fleet_go_58 (C_lock hcc' hW), hx, cond_true, g_Fleet_go_61, ixn (by omega) (by decide), cond_true, cln (by omega), (hm'.1 b hb).2]
      obtain ⟨j, hj, ehd⟩ := ho_nn hW ho b
      by_cases c1 : wK W (Int32.toNatClampNeg (toF q1.1 b)) ≤ hoF W f b
      · rw [if_pos ((lk_le (by omega) ehd).mpr c1), hc'.1, c_Fleet_go_78 (F_onF hW p2), g_Fleet_go_81]
        rw [Bool.not_true, cond_false, if_pos c1] at stop goon
        by_cases c2 : onF W q1.1 (toF q1.1 b) = -1
        · rw [if_pos c2] at goon
          rw [c2, if_pos (by decide), ixn (by omega) (by decide), cond_true, cln (by omega), nI_1]
          refine goon _ _ rfl ((p2.cell (by omega)).nu (fi_ne (by decide))) ?_ ?_ (Ag.I (Ag.A Ag.rf (by cases w <;> rfl)) (by cases w <;> rfl))
          · show sI (uI _ _ _) (fi w 3) = _
            rw [I_S, p3, Int32.add_assoc]
          · show sI (uI _ _ _) (fi w 4) = _
            rw [I_I (fi_ne (by decide))]; exact p4
        · rw [if_neg c2] at stop goon
          obtain ⟨o1, o2, o3⟩ := on_lt hW c2
          have on0 : ¬ onF W q1.1 (toF q1.1 b) < 0 := by rw [o2]; exact nI_pos (by omega)
          have ebh : nxF (q1.1 (Int32.toNatClampNeg (onF W q1.1 (toF q1.1 b)))) (q1.1 (4 + b)) = bhF q1.1 b := by rw [o3]; rfl
          rw [if_neg on0]
          have hbl := F_blow (d := d) (σ := ρ) hW p2 hc' hcc' (fun b hb => (hm'.1 b hb).1) hb o1
          rw [ebh, ← o2] at hbl
          cases hy : (yiF W (wiF W f) q1.1 b (Int32.toNatClampNeg (onF W q1.1 (toF q1.1 b))) && clF W q1.1 (bhF q1.1 b)) with
          | false =>
            rw [hy, cond_false] at hbl
            rw [c_Fleet_go_92 hbl, g_Fleet_go_95, if_pos rfl]
            exact stop (by rw [hy]; rfl)
          | true =>
            rw [hy, cond_true] at hbl
            rw [hy, cond_true] at goon
            rw [c_Fleet_go_92 hbl, g_Fleet_go_95, if_neg (by decide), ixn (by omega) (by decide), cond_true, cln (by omega), nI_1]
            refine goon _ _ rfl ((((p2.cell (by omega)).nu (fi_ne (by decide))).cell (by omega)).nu (fi_ne (by decide))) ?_ ?_ (Ag.I (Ag.A (Ag.I (Ag.A Ag.rf (by cases w <;> rfl)) (by cases w <;> rfl)) (by cases w <;> rfl)) (by cases w <;> rfl))
            · show sI (uI _ _ _) (fi w 3) = _
              rw [I_S, I_I (fi_ne (by decide))]
              show sI ρ (fi w 3) + 1 = _
              rw [p3, Int32.add_assoc]
            · show sI (uI _ _ _) (fi w 4) = _
              rw [I_I (fi_ne (by decide)), I_A, I_S, p4, Int32.add_assoc]
      · rw [if_neg (fun z => c1 ((lk_le (by omega) ehd).mp z))]
        exact stop (by rw [Bool.not_true, cond_false, if_neg c1])
  · rintro ⟨ρ, q1⟩ ⟨p1, p2, p3, p4, p5, p6⟩
    show RnV (ev (d + 4) 160 24 [(0, .ref (fo w)), (1, .int (nI b)), (2, .int (tiF (wiF W f) b)), (3, .int (if f (4 + b) = 0 then 1 else -1)), (4, .int (nI (Int32.toNatClampNeg (tiF (wiF W f) b))))] [] (mkH ρ)) _
    rw [g_Fleet_go_24, if_pos ((le_cl (by omega)).mpr (Nat.le_refl _))]
    rw [Nat.sub_self] at p6
    have p6 : q1 = _ := p6
    rw [← p6]
    exact RnV.mk ⟨p5, p2, p3, p4⟩
end CHOUR
