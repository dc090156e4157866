/-! barges: the new ones -/
def fbF (R : RW) (B : Nat) (f : Nat → Int32) (i : Nat) : Int32 :=
  if B ≤ i ∧ i < 4 then R.1 i else if 4 + B ≤ i ∧ i < 8 then R.2.1 (i - 4) else if 8 + B ≤ i ∧ i < 12 then R.2.2 (i - 8) else if 12 + B ≤ i ∧ i < 16 then 0 else f i
section FB
variable {d B j z i : Nat} {σ τ : Sg} {f : Nat → Int32} {R : RW}
theorem fb_0 (h1 : B ≤ i) (h : i < 4) : fbF R B f i = R.1 i := by
  unfold fbF; rw [if_pos ⟨h1, h⟩]
theorem fb_4 (h1 : B ≤ i) (h : i < 4) : fbF R B f (4 + i) = R.2.1 i := by
  unfold fbF; rw [if_neg (by omega), if_pos (by omega), show 4 + i - 4 = i by omega]
theorem fb_8 (h1 : B ≤ i) (h : i < 4) : fbF R B f (8 + i) = R.2.2 i := by
  unfold fbF; rw [if_neg (by omega), if_neg (by omega), if_pos (by omega), show 8 + i - 8 = i by omega]
theorem fb_12 (h1 : B ≤ i) (h : i < 4) : fbF R B f (12 + i) = 0 := by
  unfold fbF; rw [if_neg (by omega), if_neg (by omega), if_neg (by omega), if_pos (by omega)]
theorem fb_o (h : i < B ∨ (4 ≤ i ∧ i < 4 + B) ∨ (8 ≤ i ∧ i < 8 + B) ∨ (12 ≤ i ∧ i < 12 + B) ∨ 16 ≤ i) (hB : B ≤ 4) : fbF R B f i = f i := by
  unfold fbF; rw [if_neg (by omega), if_neg (by omega), if_neg (by omega), if_neg (by omega)]
def FlB (s ρ : Sg) (R : RW) (B j : Nat) : Prop := sI ρ 3202 = nI (B + j) ∧ (∀ k, k < j → sA ρ 51 (B + k) = R.1 (B + k) ∧ sA ρ 51 (4 + (B + k)) = R.2.1 (B + k) ∧ sA ρ 51 (8 + (B + k)) = R.2.2 (B + k) ∧ sA ρ 51 (12 + (B + k)) = 0) ∧ ∀ i, (i < B ∨ (4 ≤ i ∧ i < 4 + B) ∨ (8 ≤ i ∧ i < 8 + B) ∨ (12 ≤ i ∧ i < 12 + B) ∨ 16 ≤ i) → sA ρ 51 i = sA s 51 i
theorem M_fillB (hz : B + z ≤ 4) (h0 : sI σ 3202 = nI B) (hL : LbM σ R B z) {x2 : Int32} : RnI (ev (d + 2) 35 90 [(0, .ref 50), (1, .int (nI z)), (2, .int x2), (3, .int 0)] [] (mkH σ)) (fun τ y => Ag [10051, 3202, 3223, 3239] σ τ ∧ y = nI z ∧ FlB σ τ R B z ∧ sI τ 3223 = 0 ∧ sI τ 3239 = sI σ 3239 + 1) := by
  refine lpG (α := Sg) (n := z) (P := fun j ρ => Ag [10051, 3202] σ ρ ∧ FlB σ ρ R B j)
    (f := fun j ρ => ev (d + 2) 35 90 [(0, .ref 50), (1, .int (nI z)), (2, .int x2), (3, .int (nI j))] [] (mkH ρ)) (Q := fun o => RnI o _) ?_ ?_ z 0 σ (by omega) ⟨Ag.rf, h0, fun k hk => absurd hk (Nat.not_lt_zero k), fun i hi => rfl⟩
  · rintro j ρ hj ⟨p1, p2, p4, p5⟩ nx
    show RnI (ev (d + 2) 35 90 [(0, .ref 50), (1, .int (nI z)), (2, .int x2), (3, .int (nI j))] [] (mkH ρ)) _
    obtain ⟨q1, q2, q3⟩ := hL j hj
    have e3 : (3 : Int32) * nI j = nI (3 * j) := (Int32.ofNat_mul 3 j).symm
    have e31 : nI (3 * j) + (1 : Int32) = nI (3 * j + 1) := nI_add (3 * j) 1
    have e32 : nI (3 * j) + (2 : Int32) = nI (3 * j + 2) := nI_add (3 * j) 2
    rw [g_Model_barges_90, if_neg (nI_ge hj (by omega)), p2, e3, e31, e32, add4, add8, add12, ixn (k := 3 * j) (by omega) (by decide), cond_true, ixn (k := B + j) (n := 44) (by omega) (by decide), cond_true, ixn (k := 3 * j + 1) (by omega) (by decide), cond_true, ixn (k := 4 + (B + j)) (by omega) (by decide), cond_true, ixn (k := 3 * j + 2) (by omega) (by decide), cond_true, ixn (k := 8 + (B + j)) (by omega) (by decide), cond_true, ixn (k := 12 + (B + j)) (by omega) (by decide), cond_true, cln (n := 3 * j) (by omega), cln (n := B + j) (by omega), cln (n := 3 * j + 1) (by omega), cln (n := 3 * j + 2) (by omega), cln (n := 4 + (B + j)) (by omega), cln (n := 8 + (B + j)) (by omega), cln (n := 12 + (B + j)) (by omega), nI_1, nI_1]
    have v1 : sA ρ 56 = sA σ 56 := p1.2.1 56 rfl
    have es : uI (uA (uA (uA (uA ρ 51 (B + j) (sA ρ 56 (3 * j))) 51 (4 + (B + j)) (sA (uA ρ 51 (B + j) (sA ρ 56 (3 * j))) 56 (3 * j + 1))) 51 (8 + (B + j)) (sA (uA (uA ρ 51 (B + j) (sA ρ 56 (3 * j))) 51 (4 + (B + j)) (sA (uA ρ 51 (B + j) (sA ρ 56 (3 * j))) 56 (3 * j + 1))) 56 (3 * j + 2))) 51 (12 + (B + j)) 0) 3202 (nI (B + j + 1)) = uI (uA (uA (uA (uA ρ 51 (B + j) (R.1 (B + j))) 51 (4 + (B + j)) (R.2.1 (B + j))) 51 (8 + (B + j)) (R.2.2 (B + j))) 51 (12 + (B + j)) 0) 3202 (nI (B + j + 1)) := by
      have w1 : sA ρ 56 (3 * j) = R.1 (B + j) := by rw [v1]; exact q1
      have w2 : sA (uA ρ 51 (B + j) (sA ρ 56 (3 * j))) 56 (3 * j + 1) = R.2.1 (B + j) := by
        show sA ρ 56 (3 * j + 1) = _
        rw [v1]; exact q2
      have w3 : ∀ v u : Int32, sA (uA (uA ρ 51 (B + j) v) 51 (4 + (B + j)) u) 56 (3 * j + 2) = R.2.2 (B + j) := fun v u => by
        show sA ρ 56 (3 * j + 2) = _
        rw [v1]; exact q3
      rw [w2, w3, w1]
    rw [es]
    refine nx _ ⟨Ag.I (Ag.A (Ag.A (Ag.A (Ag.A p1 rfl) rfl) rfl) rfl) rfl, by show nI (B + j + 1) = _; rw [Nat.add_assoc], fun k hk => ?_, fun i hi => ?_⟩
    · show upd (upd (upd (upd (sA ρ 51) (B + j) _) (4 + (B + j)) _) (8 + (B + j)) _) (12 + (B + j)) _ (B + k) = _ ∧ upd (upd (upd (upd (sA ρ 51) (B + j) _) (4 + (B + j)) _) (8 + (B + j)) _) (12 + (B + j)) _ (4 + (B + k)) = _ ∧ upd (upd (upd (upd (sA ρ 51) (B + j) _) (4 + (B + j)) _) (8 + (B + j)) _) (12 + (B + j)) _ (8 + (B + k)) = _ ∧ upd (upd (upd (upd (sA ρ 51) (B + j) _) (4 + (B + j)) _) (8 + (B + j)) _) (12 + (B + j)) _ (12 + (B + k)) = _
      by_cases ek : k = j
      · subst ek
        refine ⟨?_, ?_, ?_, upS⟩
        · rw [upN (by omega), upN (by omega), upN (by omega), upS]
        · rw [upN (by omega), upN (by omega), upS]
        · rw [upN (by omega), upS]
      · obtain ⟨r1, r2, r3, r4⟩ := p4 k (by omega)
        refine ⟨?_, ?_, ?_, ?_⟩
        · rw [upN (by omega), upN (by omega), upN (by omega), upN (by omega)]; exact r1
        · rw [upN (by omega), upN (by omega), upN (by omega), upN (by omega)]; exact r2
        · rw [upN (by omega), upN (by omega), upN (by omega), upN (by omega)]; exact r3
        · rw [upN (by omega), upN (by omega), upN (by omega), upN (by omega)]; exact r4
    · show upd (upd (upd (upd (sA ρ 51) (B + j) _) (4 + (B + j)) _) (8 + (B + j)) _) (12 + (B + j)) _ i = _
      rw [upN (by omega), upN (by omega), upN (by omega), upN (by omega)]; exact p5 i hi
  · rintro ρ ⟨p1, p2⟩
    show RnI (ev (d + 2) 35 90 [(0, .ref 50), (1, .int (nI z)), (2, .int x2), (3, .int (nI z))] [] (mkH ρ)) _
    rw [g_Model_barges_90, if_pos (nI_le (Nat.le_refl _) (by omega)), c_Model_barges_185 (g_Model_told_0 (d := d)), g_Model_barges_188]
    refine RnI.mk ⟨(p1.wk rfl).tr (Ag.I (Ag.I Ag.rf rfl) rfl), rfl, p2, rfl, ?_⟩
    show sI ρ 3239 + 1 = _
    rw [p1.1 3239 rfl]
end FB
section BP
variable {d k n : Nat} {σ τ : Sg} {W : Wd} {f T : Nat → Int32}
theorem CWo.olb (h : CWo W f σ) (g : Ag (65 :: kBt) σ τ) (o : OlB σ τ (wb W)) : CWo W f τ := by
  obtain ⟨h1, h2, ⟨q1, q2, q3⟩, h4, ⟨r1, r2, r3⟩, h6⟩ := h
  refine ⟨h1, h2, ⟨(g.1 325 rfl).trans q1, (g.1 334 rfl).trans q2, fun p hp => (congrFun (g.2.1 18 rfl) p).trans (q3 p hp)⟩, h4.ag g rfl, ⟨fun b hb => ?_, fun p hp => ?_, (g.1 322 rfl).trans r3⟩, ?_⟩
  · obtain ⟨s1, s2, s3, s4⟩ := r1 b hb
    obtain ⟨o1, o2, o3, o4⟩ := o b hb
    exact ⟨o1.trans s1, o2.trans s2, o3.trans s3, o4.trans s4⟩
  · obtain ⟨s1, s2, s3⟩ := r2 p hp
    exact ⟨(congrFun (g.2.1 19 rfl) p).trans s1, (congrFun (g.2.1 20 rfl) p).trans s2, (congrFun (g.2.1 21 rfl) p).trans s3⟩
  · rw [g.2.2.2.1 0 rfl]; exact h6.ag g (by cases sB σ 0 <;> rfl)
/-- how the class reads the lines -/
theorem C_barg {n : Nat} (h : CWo W f σ) (hn : n ≤ 80) (hn0 : 0 < n) (h0 : sI σ 65 = nI n) : RnI (ev (d + 5) 138 0 [(0, .ref 5), (1, .ref 1)] [] (mkH σ)) (fun τ y => Ag kBt σ τ ∧ OlB σ τ (wb W) ∧ (∀ q z S, bmS (sA σ 2) (min n 19) W (4 - wb W) (wb W) 0 (sA σ 10, sA σ 11, sA σ 12) = (false, q, z, S) → y = -1 ∧ sI τ 66 = nI q) ∧ (∀ q z S, bmS (sA σ 2) (min n 19) W (4 - wb W) (wb W) 0 (sA σ 10, sA σ 11, sA σ 12) = (true, q, z, S) → y = nI (z - wb W) ∧ sI τ 66 = nI q ∧ LbC τ S (wb W) z)) := by
  have w4 := h.1.1
  have em : (if (19 : Int32) < nI n then (19 : Int32) else nI n) = nI (min n 19) := by
    rcases Nat.lt_or_ge 19 n with z | z
    · rw [if_pos (show (19 : Int32) < nI n from nI_lt (a := 19) (b := n) z (by omega)), Nat.min_eq_right (by omega)]; rfl
    · rw [if_neg (show ¬ (19 : Int32) < nI n from nI_nlt (a := 19) (b := n) z (by omega)), Nat.min_eq_left z]
  have e1 : ev (d + 4) 203 0 [(0, .ref 1), (1, .int 19)] [] (mkH σ) = rV (uI (uI σ 66 0) 67 (nI (min n 19))) := by rw [g_Script_open_0, h0, em]
  have a1 : Ag kBt σ (uI (uI σ 66 0) 67 (nI (min n 19))) := Ag.I (Ag.I Ag.rf rfl) rfl
  rw [g_Fleet_draftBarges_0, c_Fleet_draftBarges_3 e1, g_Fleet_draftBarges_6, show sI (uI (uI σ 66 0) 67 (nI (min n 19))) 65 = nI n from h0, if_neg (show ¬ nI n = (0 : Int32) from nI_ne (a := n) (b := 0) (by omega) (by decide) (by omega)), show sI (uI (uI σ 66 0) 67 (nI (min n 19))) 325 = nI (wb W) from h.2.2.1.1]
  exact C_boats (d := d + 1) (e := min n 19) h.1 (by omega) (4 - wb W) (wb W) 0 (sA σ 10, sA σ 11, sA σ 12) (uI (uI σ 66 0) 67 (nI (min n 19))) (by omega) (Nat.le_refl _) (by omega) ⟨rfl, rfl, rfl, by omega, by omega⟩ (h.2.2.2.1.ag a1 rfl) h.2.2.1.1 a1 (fun i hi => ⟨rfl, rfl, rfl, rfl⟩) ⟨rfl, rfl, rfl, fun i i1 i2 => absurd i2 (by omega)⟩
theorem C_bno {q : Nat} (hq : q < 200) (e1 : ev (d + 9) 138 0 [(0, .ref 5), (1, .ref 1)] [] (mkH σ) = rI τ (-1)) (h66 : sI τ 66 = nI q) : ev (d + 10) 219 0 [(0, .ref 0)] [] (mkH σ) = rI (uI (uI (uI τ 65 0) 66 0) 67 0) (-1 - nI q) := by
  rw [g_Main_barges_0, c_Main_barges_8 e1, g_Main_barges_11, if_pos (by decide), c_Main_barges_33 (C_ans (d := d + 7)), g_Main_barges_36, if_pos rfl, h66, if_pos (neg_tab q hq)]
theorem C_bwh {q z : Nat} (hq : q < 200) (hz : z < 200) (e1 : ev (d + 9) 138 0 [(0, .ref 5), (1, .ref 1)] [] (mkH σ) = rI τ (nI z)) (h66 : sI τ 66 = nI q) (h65 : sI τ 65 = nI n) (hn : n < 200) (hne : q ≠ n) : ev (d + 10) 219 0 [(0, .ref 0)] [] (mkH σ) = rI (uI (uI (uI τ 65 0) 66 0) 67 0) (-1 - nI q) := by
  have er : ev (d + 9) 207 0 [(0, .ref 1)] [] (mkH τ) = rI τ 0 := by
    rw [g_Script_isReadWhole_0, h66, h65, if_neg (nI_ne (by omega) (by omega) hne)]
  rw [g_Main_barges_0, c_Main_barges_8 e1, g_Main_barges_11, if_neg (nI_pos (by omega)), c_Main_barges_21 er, g_Main_barges_24, if_pos rfl, c_Main_barges_33 (C_ans (d := d + 7)), g_Main_barges_36, if_pos rfl, h66, if_pos (neg_tab q hq)]
theorem op_barges0 (hd : 400 ≤ d) (h : INV k σ) (hn : sI σ 65 = nI 0) : OpR (INV (k + 1)) d 219 35 [(0, .ref 0)] [(0, .ref 50)] σ := by
  obtain ⟨d, rfl⟩ : ∃ e, d = e + 10 := ⟨d - 10, by omega⟩
  have h0 := h
  obtain ⟨W, f, ⟨c, m, b3, b2⟩, ⟨n, n1, n2, n3, n4⟩, to, go, pa, ke⟩ := h
  have hn0 : n = 0 := Decidable.byContradiction (fun q => nI_ne (a := n) (b := 0) (by omega) (by decide) q (n2.symm.trans hn))
  subst hn0
  have e1 := g_Script_open_0 (d := d + 7) (σ := σ) (x1 := 19)
  generalize (if (19 : Int32) < sI σ 65 then (19 : Int32) else sI σ 65) = X at e1
  have a1 : Ag kBt σ (uI (uI σ 66 0) 67 X) := Ag.I (Ag.I Ag.rf rfl) rfl
  have s66 : sI (uI (uI σ 66 0) 67 X) 66 = 0 := rfl
  have s65 : sI (uI (uI σ 66 0) 67 X) 65 = 0 := n2
  have ol : OlB σ (uI (uI σ 66 0) 67 X) (wb W) := fun i hi => ⟨rfl, rfl, rfl, rfl⟩
  have e2 : ev (d + 9) 138 0 [(0, .ref 5), (1, .ref 1)] [] (mkH σ) = rI (uI (uI σ 66 0) 67 X) 0 := by
    rw [g_Fleet_draftBarges_0, c_Fleet_draftBarges_3 e1, g_Fleet_draftBarges_6, s65, if_pos rfl]
  generalize uI (uI σ 66 0) 67 X = τ at a1 s66 s65 ol e2
  clear e1
  have er : ev (d + 9) 207 0 [(0, .ref 1)] [] (mkH τ) = rI τ 1 := by
    rw [g_Script_isReadWhole_0, s66, s65, if_pos rfl]
  have hcl : ev (d + 10) 219 0 [(0, .ref 0)] [] (mkH σ) = rI (uI (uI (uI τ 65 0) 66 0) 67 0) 0 := by
    rw [g_Main_barges_0, c_Main_barges_8 e2, g_Main_barges_11, if_neg (by decide), c_Main_barges_21 er, g_Main_barges_24, if_neg (by decide), c_Main_barges_33 (C_ans (d := d + 7)), g_Main_barges_36, if_neg (show ¬ (1 : Int32) = 0 by decide), if_pos (show (0 : Int32) ≤ 0 by decide)]
  have aσ1 : Ag (65 :: kBt) σ (uI (uI (uI τ 65 0) 66 0) 67 0) := (a1.wk rfl).tr (Ag.I (Ag.I (Ag.I Ag.rf rfl) rfl) rfl)
  have ol1 : OlB σ (uI (uI (uI τ 65 0) 66 0) 67 0) (wb W) := ol
  have e65 : sI (uI (uI (uI τ 65 0) 66 0) 67 0) 65 = 0 := rfl
  have cw : CWo W f (uI (uI (uI τ 65 0) 66 0) 67 0) := c.olb aσ1 ol1
  generalize uI (uI (uI τ 65 0) 66 0) 67 0 = σ1 at aσ1 hcl e65 cw
  have a0 : Ag [3210] σ1 (uI σ1 3210 0) := Ag.I Ag.rf rfl
  obtain ⟨ρ, t1, t2, t3, t4, t5⟩ := N_text (d := d + 7) (k := 0) (σ := uI σ1 3210 0) (T := sA σ 2) (m := 19) (x := 19) n1 ((aσ1.1 3207 rfl).trans n3) (fun i hi => absurd hi (Nat.not_lt_zero i)) (by omega) rfl
  have aσ2 : Ag ([3210] ++ kT ++ kTm) σ1 ρ := (a0.wk rfl).tr (t2.wk rfl)
  have hml : ev (d + 10) 35 0 [(0, .ref 50)] [] (mkH σ1) = rI ρ 0 := by
    rw [g_Model_barges_0, c_Model_barges_8 t1, g_Model_barges_11, t3.1, if_pos (show nI 0 = (0 : Int32) from rfl)]
  have aa : Ag (65 :: kBt ++ ([3210] ++ kT ++ kTm)) σ ρ := (aσ1.wk rfl).tr (aσ2.wk rfl)
  refine ⟨σ1, ρ, 0, hcl, hml, aσ1.2.2.2.2.2.2, aa.2.2.2.2.2.2, aa.2.2.2.2.2.1, ?_⟩
  exact h0.of (cw.ag aσ2 rfl) (m.ag aa rfl) (aa.2.2.2.1 3 rfl) (aa.2.2.2.1 2 rfl) (aa.2.2.2.1 0 rfl) ⟨0, by omega, (aσ2.1 65 rfl).trans e65, t5, fun i hi => absurd hi (Nat.not_lt_zero i)⟩ (to.ag aa rfl rfl) (go.ag aa rfl) (pa.ag aa rfl) (ke.ag aa rfl).mono
theorem op_barges : Op_barges 400 INV := by
  intro d hd k σ hk h
  have h0 := h
  obtain ⟨W, f, ⟨c, m, b3, b2⟩, ⟨n, n1, n2, n3, n4⟩, to, go, pa, ke⟩ := h
  rcases Nat.eq_zero_or_pos n with hz | hz
  · subst hz; exact op_barges0 hd h0 n2
  obtain ⟨d, rfl⟩ : ∃ e, d = e + 10 := ⟨d - 10, by omega⟩
  have w4 := c.1.1
  have w30 := c.1.2.2.2.1
  obtain ⟨τ, y, e1, a1, ol, p1, p2⟩ := C_barg (d := d + 4) c n1 hz n2
  have t65 : sI τ 65 = nI n := (a1.1 65 rfl).trans n2
  have r10 : ∀ i, i < wb W → sA σ 10 i = f i := fun i hi => (c.2.2.2.2.1.1 i hi).1
  -- the reference, from any state that the class has left
  have ref : ∀ σ1 : Sg, Ag ([65, 325, 2371, 10039] ++ kBt) σ σ1 → ∃ ρ, ev (d + 10) 35 0 [(0, .ref 50)] [] (mkH σ1) = ev (d + 10) 35 24 [(0, .ref 50), (1, .int (nI 0)), (2, .int 1)] [] (mkH ρ) ∧ Ag ([3210] ++ kT) σ1 ρ ∧ RD ρ (sA σ 2) n 19 0 ∧ sI ρ 3215 = -1 ∧ sI ρ 3207 = 0 ∧ MW W ρ ∧ Lv W (sA ρ 51) f := fun σ1 g => by
    have a0 : Ag [3210] σ1 (uI σ1 3210 0) := Ag.I Ag.rf rfl
    obtain ⟨ρ, t1, t2, t3, t4, t5⟩ := N_text (d := d + 7) (k := 0) (σ := uI σ1 3210 0) (T := sA σ 2) (m := 19) (x := 19) n1 ((g.1 3207 rfl).trans n3) (fun i hi => by
      show bT (sA σ1 54 i) _
      rw [g.2.1 54 rfl]; exact n4 i hi) (by omega) rfl
    have ar : Ag ([3210] ++ kT) σ1 ρ := (a0.wk rfl).tr (t2.wk rfl)
    refine ⟨ρ, ?_, ar, t3, t4, t5, ?_, ?_⟩
    · rw [g_Model_barges_0, c_Model_barges_8 t1, g_Model_barges_11, t3.1, if_neg (show ¬ nI n = (0 : Int32) from nI_ne (a := n) (b := 0) (by omega) (by decide) (by omega))]; rfl
    · exact (m.2.2.1.ag g rfl).ag ar rfl
    · rw [ar.2.1 51 rfl, g.2.1 51 rfl]; exact m.2.2.2.1
  have no : ∀ q, q < 200 → ev (d + 10) 219 0 [(0, .ref 0)] [] (mkH σ) = rI (uI (uI (uI τ 65 0) 66 0) 67 0) (-1 - nI q) → (∀ ρ, RD ρ (sA σ 2) n 19 0 → sI ρ 3215 = -1 → MW W ρ → Lv W (sA ρ 51) f → RnI (ev (d + 10) 35 24 [(0, .ref 50), (1, .int (nI 0)), (2, .int 1)] [] (mkH ρ)) (fun τ y => Ag kTm ρ τ ∧ y = -1 - nI q)) → OpR (INV (k + 1)) (d + 10) 219 35 [(0, .ref 0)] [(0, .ref 50)] σ := fun q hq hcl hm => by
    have aσ1 : Ag (65 :: kBt) σ (uI (uI (uI τ 65 0) 66 0) 67 0) := (a1.wk rfl).tr (Ag.I (Ag.I (Ag.I Ag.rf rfl) rfl) rfl)
    have cw : CWo W f (uI (uI (uI τ 65 0) 66 0) 67 0) := c.olb aσ1 ol
    have e65 : sI (uI (uI (uI τ 65 0) 66 0) 67 0) 65 = 0 := rfl
    generalize uI (uI (uI τ 65 0) 66 0) 67 0 = σ1 at aσ1 hcl e65 cw
    obtain ⟨ρ, r1, r2, r3, r4, r5, r6, r7⟩ := ref σ1 (aσ1.wk rfl)
    obtain ⟨σ2, y, s1, s2, rfl⟩ := hm ρ r3 r4 r6 r7
    have aσ2 : Ag ([3210] ++ kT ++ kTm) σ1 σ2 := (r2.wk rfl).tr (s2.wk rfl)
    have aa : Ag (65 :: kBt ++ ([3210] ++ kT ++ kTm)) σ σ2 := (aσ1.wk rfl).tr (aσ2.wk rfl)
    refine ⟨σ1, σ2, _, hcl, r1.trans s1, aσ1.2.2.2.2.2.2, aa.2.2.2.2.2.2, aa.2.2.2.2.2.1, ?_⟩
    exact h0.of (cw.ag aσ2 rfl) (m.ag aa rfl) (aa.2.2.2.1 3 rfl) (aa.2.2.2.1 2 rfl) (aa.2.2.2.1 0 rfl) ⟨0, by omega, (aσ2.1 65 rfl).trans e65, (s2.1 3207 rfl).trans r5, fun i hi => absurd hi (Nat.not_lt_zero i)⟩ (to.ag aa rfl rfl) (go.ag aa rfl) (pa.ag aa rfl) (ke.ag aa rfl).mono
  have hM := fun ρ x1 x2 x3 x4 => M_boats (d := d + 4) (n := n) (T := sA σ 2) (f := f) c.1 (4 - wb W) 0 0 (sA σ 10, sA σ 11, sA σ 12) ρ (by omega) (by omega) x1 x2 x3 x4 r10 (fun j hj => absurd hj (Nat.not_lt_zero j))
  rw [Nat.add_zero] at hM
  cases hS : bmS (sA σ 2) (min n 19) W (4 - wb W) (wb W) 0 (sA σ 10, sA σ 11, sA σ 12) with
  | mk ok zz =>
  obtain ⟨q, z, S⟩ := zz
  cases ok with
  | false =>
    obtain ⟨rfl, q66⟩ := p1 q z S hS
    have hb := bm_bad _ _ _ _ hS
    exact no q (by omega) (C_bno (by omega) e1 q66) (fun ρ x1 x2 x3 x4 => (hM ρ x1 x2 x3 x4).1 q z S hS)
  | true =>
    obtain ⟨rfl, q66, ln⟩ := p2 q z S hS
    obtain ⟨z1', z2, z3, z4, z5⟩ := bm_ok (B := wb W) c.1 _ _ _ _ hS (fun i i1 i2 => absurd i2 (by omega))
    by_cases hl : q < n
    · exact no q (by omega) (C_bwh (n := n) (by omega) (by omega) e1 q66 t65 (by omega) (by omega)) (fun ρ x1 x2 x3 x4 => ((hM ρ x1 x2 x3 x4).2 q z S hS).1 hl)
    · have hn : q = n := by omega
      subst hn
      have er : ev (d + 9) 207 0 [(0, .ref 1)] [] (mkH τ) = rI τ 1 := by
        rw [g_Script_isReadWhole_0, q66, t65, if_pos rfl]
      have aK : Ag ([65, 325] ++ kBt) σ (uI (uI (uI (uI τ 65 0) 66 0) 67 0) 325 (nI (wb W + (z - wb W)))) := (a1.wk rfl).tr (Ag.I (Ag.I (Ag.I (Ag.I Ag.rf rfl) rfl) rfl) rfl)
      obtain ⟨σ1, u1, u2, u3, u4⟩ := C_drop (d := d + 8) (σ := uI (uI (uI (uI τ 65 0) 66 0) 67 0) 325 (nI (wb W + (z - wb W))))
      have s325 : sI (uI (uI (uI τ 65 0) 66 0) 67 0) 325 = nI (wb W) := (a1.1 325 rfl).trans c.2.2.1.1
      have hcl : ev (d + 10) 219 0 [(0, .ref 0)] [] (mkH σ) = rI σ1 (nI (z - wb W)) := by
        rw [g_Main_barges_0, c_Main_barges_8 e1, g_Main_barges_11, if_neg (nI_pos (by omega)), c_Main_barges_21 er, g_Main_barges_24, if_neg (by decide), c_Main_barges_33 (C_ans (d := d + 7)), g_Main_barges_36, if_neg (show ¬ (1 : Int32) = 0 by decide), if_neg (show ¬ nI (z - wb W) ≤ (0 : Int32) from nI_ge (a := 0) (b := z - wb W) (by omega) (by omega)), s325, nI_add, c_Main_barges_58 u1, g_Main_barges_61]
      have aσ1 : Ag ([65, 325, 2371, 10039] ++ kBt) σ σ1 := (aK.wk rfl).tr (u2.wk rfl)
      have r10' : sA σ1 10 = sA τ 10 := (u2.2.1 10 rfl).trans rfl
      have r11 : sA σ1 11 = sA τ 11 := (u2.2.1 11 rfl).trans rfl
      have r12 : sA σ1 12 = sA τ 12 := (u2.2.1 12 rfl).trans rfl
      have r13 : sA σ1 13 = sA τ 13 := (u2.2.1 13 rfl).trans rfl
      have e65 : sI σ1 65 = nI 0 := (u2.1 65 rfl).trans rfl
      have e325 : sI σ1 325 = nI z := (u2.1 325 rfl).trans (by show nI (wb W + (z - wb W)) = nI z; rw [show wb W + (z - wb W) = z by omega])
      obtain ⟨ρ, r1, r2, r3, r4, r5, r6, r7⟩ := ref σ1 aσ1
      obtain ⟨ω, k1, k2, k3⟩ := ((hM ρ r3 r4 r6 r7).2 q z S hS).2 (by omega)
      obtain ⟨σ2, y, v1, v2, rfl, ⟨f1, f3, f4⟩, v4, v5⟩ := M_fillB (d := d + 8) (σ := ω) (B := wb W) (z := z - wb W) (by omega) ((k1.1 3202 rfl).trans r6.1) k2 (x2 := 0)
      have aσ2 : Ag ([3210] ++ kT ++ kTm ++ [10051, 3202, 3223, 3239]) σ1 σ2 := (r2.wk rfl).tr ((k1.wk rfl).tr (v2.wk rfl))
      have aa : Ag ([65, 325, 2371, 10039] ++ kBt ++ ([3210] ++ kT ++ kTm ++ [10051, 3202, 3223, 3239])) σ σ2 := (aσ1.wk rfl).tr (aσ2.wk rfl)
      have m51 : sA ω 51 = sA σ 51 := (k1.2.1 51 rfl).trans ((r2.2.1 51 rfl).trans (aσ1.2.1 51 rfl))
      have hWO : WO ((z, wp W, wc W), wK W, wl W, wV W) := ⟨(by show z ≤ 4; omega), c.1.2.1, c.1.2.2.1, c.1.2.2.2.1, c.1.2.2.2.2.1, c.1.2.2.2.2.2⟩
      have sp : ∀ p, ¬ p < wb W → p < z → ∃ j, j < z - wb W ∧ p = wb W + j := fun p q1 q2 => ⟨p - wb W, by omega, by omega⟩
      have hOK : OK ((z, wp W, wc W), wK W, wl W, wV W) (fbF S (wb W) f) := ⟨fun b hb => (by
        have hb : b < z := hb
        show ax_ix _ (wc W) = true ∧ _
        by_cases q' : b < wb W
        · rw [fb_o (by omega) w4, fb_o (by omega) w4, fb_o (by omega) w4, fb_o (by omega) w4]; exact c.2.1.1 b q'
        · rw [fb_0 (by omega) (by omega), fb_4 (by omega) (by omega), fb_8 (by omega) (by omega), fb_12 (by omega) (by omega)]
          obtain ⟨g1, g2, g3⟩ := z4 b (by omega) hb
          exact ⟨g1, g2, g3, Or.inl rfl⟩), fun p hp => (by
        show ax_ix _ z = true ∧ _
        have hp : p < wp W := hp
        rw [fb_o (by omega) w4, fb_o (by omega) w4, fb_o (by omega) w4]
        obtain ⟨g1, g2, g3⟩ := c.2.1.2 p hp
        exact ⟨ix_mono g1 (by omega) (by omega), g2, g3⟩)⟩
      refine ⟨σ1, σ2, nI (z - wb W), hcl, r1.trans (k3.trans v1), aσ1.2.2.2.2.2.2, aa.2.2.2.2.2.2, aa.2.2.2.2.2.1, ?_⟩
      refine h0.of (W := ((z, wp W, wc W), wK W, wl W, wV W)) (f' := fbF S (wb W) f) ⟨hWO, hOK, ⟨(aσ2.1 325 rfl).trans e325, (aa.1 334 rfl).trans c.2.2.1.2.1, fun p hp => (congrFun (aa.2.1 18 rfl) p).trans (c.2.2.1.2.2 p hp)⟩, c.2.2.2.1.ag aa rfl, ⟨fun b hb => ?_, fun p hp => ?_, ?_⟩, ?_⟩ ⟨hWO, hOK, ⟨?_, (aa.1 3203 rfl).trans m.2.2.1.2.1, (aa.1 3201 rfl).trans m.2.2.1.2.2.1, fun i hi => (congrFun (aa.2.1 52 rfl) i).trans (m.2.2.1.2.2.2.1 i hi), fun p hp => (congrFun (aa.2.1 53 rfl) p).trans (m.2.2.1.2.2.2.2 p hp)⟩, ⟨fun b hb => ?_, fun p hp => ?_, ?_⟩, m.2.2.2.2.ag aa rfl⟩ (aa.2.2.2.1 3 rfl) (aa.2.2.2.1 2 rfl) (aa.2.2.2.1 0 rfl) ⟨0, by omega, (aσ2.1 65 rfl).trans e65, (v2.1 3207 rfl).trans ((k1.1 3207 rfl).trans r5), fun i hi => absurd hi (Nat.not_lt_zero i)⟩ (to.ag aa rfl rfl) (go.ag aa rfl) (pa.new aa rfl ((aσ2.1 2371 rfl).trans u3) v4) (ke.new hk aa rfl (fun i hi => by rw [aσ2.2.1 39 rfl]; exact u4 i hi) (v5.trans ?_))
      · have hb : b < z := hb
        show sA σ2 10 b = _ ∧ sA σ2 11 b = _ ∧ sA σ2 12 b = _ ∧ sA σ2 13 b = _
        rw [aσ2.2.1 10 rfl, aσ2.2.1 11 rfl, aσ2.2.1 12 rfl, aσ2.2.1 13 rfl, r10', r11, r12, r13]
        by_cases q' : b < wb W
        · obtain ⟨o1, o2, o3, o4⟩ := ol b q'
          rw [fb_o (by omega) w4, fb_o (by omega) w4, fb_o (by omega) w4, fb_o (by omega) w4, o1, o2, o3, o4]
          exact c.2.2.2.2.1.1 b q'
        · rw [fb_0 (by omega) (by omega), fb_4 (by omega) (by omega), fb_8 (by omega) (by omega), fb_12 (by omega) (by omega), ln.1, ln.2.1, ln.2.2.1]
          exact ⟨rfl, rfl, rfl, ln.2.2.2 b (by omega) hb⟩
      · have hp : p < wp W := hp
        rw [fb_o (by omega) w4, fb_o (by omega) w4, fb_o (by omega) w4]
        obtain ⟨s1, s2, s3⟩ := c.2.2.2.2.1.2.1 p hp
        exact ⟨(congrFun (aa.2.1 19 rfl) p).trans s1, (congrFun (aa.2.1 20 rfl) p).trans s2, (congrFun (aa.2.1 21 rfl) p).trans s3⟩
      · rw [fb_o (by omega) w4]; exact (aa.1 322 rfl).trans c.2.2.2.2.1.2.2
      · rw [aa.2.2.2.1 0 rfl]; exact c.2.2.2.2.2.ag aa (by cases sB σ 0 <;> rfl)
      · show sI σ2 3202 = nI z
        rw [f1, show wb W + (z - wb W) = z by omega]
      · have hb : b < z := hb
        by_cases q' : b < wb W
        · rw [fb_o (by omega) w4, fb_o (by omega) w4, fb_o (by omega) w4, fb_o (by omega) w4, f4 _ (by omega), f4 _ (by omega), f4 _ (by omega), f4 _ (by omega), m51]
          exact m.2.2.2.1.1 b q'
        · obtain ⟨j, j1, rfl⟩ := sp b q' hb
          rw [fb_0 (by omega) (by omega), fb_4 (by omega) (by omega), fb_8 (by omega) (by omega), fb_12 (by omega) (by omega)]
          exact f3 j j1
      · have hp : p < wp W := hp
        rw [fb_o (by omega) w4, fb_o (by omega) w4, fb_o (by omega) w4, f4 _ (by omega), f4 _ (by omega), f4 _ (by omega), m51]
        exact m.2.2.2.1.2.1 p hp
      · rw [fb_o (by omega) w4, f4 _ (by omega), m51]; exact m.2.2.2.1.2.2
      · rw [k1.1 3239 rfl, r2.1 3239 rfl, aσ1.1 3239 rfl]
end BP
