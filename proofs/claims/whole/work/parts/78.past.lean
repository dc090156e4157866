/-! states saved and brought back -/
section P1
variable {d o m x : Nat} {σ τ : Sg} {W : Wd} {f g : Nat → Int32} {st su : Nat → Int32}
theorem cS_c {b : Nat} (h : b < 4) : cS st o b = st (o + 1 + 4 * b) := by
  unfold cS; rw [if_pos h]
theorem cS_h {b : Nat} (h : b < 4) : cS st o (4 + b) = st (o + 2 + 4 * b) := by
  unfold cS; rw [if_neg (by omega), if_pos (by omega), Nat.add_sub_cancel_left]
theorem cS_g {b : Nat} (h : b < 4) : cS st o (8 + b) = st (o + 3 + 4 * b) := by
  unfold cS; rw [if_neg (by omega), if_neg (by omega), if_pos (by omega), Nat.add_sub_cancel_left]
theorem cS_t {b : Nat} (h : b < 4) : cS st o (12 + b) = st (o + 4 + 4 * b) := by
  unfold cS; rw [if_neg (by omega), if_neg (by omega), if_neg (by omega), if_pos (by omega), Nat.add_sub_cancel_left]
theorem cS_b {p : Nat} (h : p < 9) : cS st o (16 + p) = st (o + 17 + 3 * p) := by
  unfold cS; rw [if_neg (by omega), if_neg (by omega), if_neg (by omega), if_neg (by omega), if_pos (by omega), Nat.add_sub_cancel_left]
theorem cS_a {p : Nat} (h : p < 9) : cS st o (25 + p) = st (o + 18 + 3 * p) := by
  unfold cS; rw [if_neg (by omega), if_neg (by omega), if_neg (by omega), if_neg (by omega), if_neg (by omega), if_pos (by omega), Nat.add_sub_cancel_left]
theorem cS_i {p : Nat} (h : p < 9) : cS st o (34 + p) = st (o + 19 + 3 * p) := by
  unfold cS; rw [if_neg (by omega), if_neg (by omega), if_neg (by omega), if_neg (by omega), if_neg (by omega), if_neg (by omega), if_pos (by omega), Nat.add_sub_cancel_left]
theorem cS_o : cS st o 43 = st o := rfl
theorem cS_congr (e : ∀ i, o ≤ i → i < o + 44 → su i = st i) {i : Nat} (hi : i < 44) : cS su o i = cS st o i := by
  unfold cS
  repeat' split
  all_goals exact e _ (by omega) (by omega)
theorem z1_if {x : Int32} (h : z1 x) : (if x = 0 then (0 : Int32) else 1) = x := by
  rcases h with e | e
  · rw [e]; rfl
  · rw [e]; rfl
theorem z1_if1 {x : Int32} (h : z1 x) : (if x = 1 then (1 : Int32) else 0) = x := by
  rcases h with e | e
  · rw [e]; rfl
  · rw [e]; rfl
theorem ad1 (a c : Nat) (h : a + 1 = c) : nI a + 1 = nI c := by rw [nI_1, h]
def SV (σ τ : Sg) (o : Nat) : Prop := (∀ i, i < o ∨ o + 44 ≤ i → sA τ 38 i = sA σ 38 i) ∧ sA τ 38 o = sI σ 322
def SB (σ τ : Sg) (o k : Nat) : Prop := ∀ b, b < k → sA τ 38 (o + 1 + 4 * b) = sA σ 10 b ∧ sA τ 38 (o + 2 + 4 * b) = sA σ 11 b ∧ sA τ 38 (o + 3 + 4 * b) = sA σ 12 b ∧ sA τ 38 (o + 4 + 4 * b) = (if sA σ 13 b = 0 then 0 else 1)
def SP (σ τ : Sg) (o k : Nat) : Prop := ∀ p, p < k → sA τ 38 (o + 17 + 3 * p) = sA σ 19 p ∧ sA τ 38 (o + 18 + 3 * p) = (if sA σ 20 p = 0 then 0 else 1) ∧ sA τ 38 (o + 19 + 3 * p) = sA σ 21 p
theorem save1 {b : Nat} (hb : b < 4) (ho : o ≤ 616) {xo : Int32} : ev (d + 1) 136 29 [(0, .ref 5), (1, .ref 38), (2, .int xo), (3, .int (nI (o + 1 + 4 * b))), (4, .int (nI b))] [] (mkH σ) = ev (d + 1) 136 29 [(0, .ref 5), (1, .ref 38), (2, .int xo), (3, .int (nI (o + 1 + 4 * (b + 1)))), (4, .int (nI (b + 1)))] [] (mkH (uA (uA (uA (uA σ 38 (o + 1 + 4 * b) (sA σ 10 b)) 38 (o + 2 + 4 * b) (sA σ 11 b)) 38 (o + 3 + 4 * b) (sA σ 12 b)) 38 (o + 4 + 4 * b) (if sA σ 13 b = 0 then 0 else 1))) := by
  rw [g_Fleet_save_29, if_neg (show ¬ (4 : Int32) ≤ nI b from nI_ge (a := b) (b := 4) hb (by decide)), ixn (k := b) hb (by decide), cond_true, ad1 (o + 1 + 4 * b) (o + 2 + 4 * b) (by omega), ad1 (o + 2 + 4 * b) (o + 3 + 4 * b) (by omega), ad1 (o + 3 + 4 * b) (o + 4 + 4 * b) (by omega), ad1 (o + 4 + 4 * b) (o + 1 + 4 * (b + 1)) (by omega), nI_1, ixn (k := o + 1 + 4 * b) (by omega) (by decide), ixn (k := o + 2 + 4 * b) (by omega) (by decide), ixn (k := o + 3 + 4 * b) (by omega) (by decide), ixn (k := o + 4 + 4 * b) (by omega) (by decide), cln (n := b) (by omega), cln (n := o + 1 + 4 * b) (by omega), cln (n := o + 2 + 4 * b) (by omega), cln (n := o + 3 + 4 * b) (by omega), cln (n := o + 4 + 4 * b) (by omega)]
  by_cases h : sA σ 13 b = 0
  · rw [if_pos h]
    exact (if_pos h : _)
  · rw [if_neg h]
    exact (if_neg h : _)
theorem save2 {p : Nat} (hp : p < 9) (ho : o ≤ 616) {xo : Int32} : ev (d + 1) 136 104 [(0, .ref 5), (1, .ref 38), (2, .int xo), (3, .int (nI (o + 17 + 3 * p))), (4, .int (nI p))] [] (mkH σ) = ev (d + 1) 136 104 [(0, .ref 5), (1, .ref 38), (2, .int xo), (3, .int (nI (o + 17 + 3 * (p + 1)))), (4, .int (nI (p + 1)))] [] (mkH (uA (uA (uA σ 38 (o + 17 + 3 * p) (sA σ 19 p)) 38 (o + 18 + 3 * p) (if sA σ 20 p = 0 then 0 else 1)) 38 (o + 19 + 3 * p) (sA σ 21 p))) := by
  rw [g_Fleet_save_104, if_neg (show ¬ (9 : Int32) ≤ nI p from nI_ge (a := p) (b := 9) hp (by decide)), ixn (k := p) hp (by decide), cond_true, ad1 (o + 17 + 3 * p) (o + 18 + 3 * p) (by omega), ad1 (o + 18 + 3 * p) (o + 19 + 3 * p) (by omega), ad1 (o + 19 + 3 * p) (o + 17 + 3 * (p + 1)) (by omega), nI_1, ixn (k := o + 17 + 3 * p) (by omega) (by decide), ixn (k := o + 18 + 3 * p) (by omega) (by decide), ixn (k := o + 19 + 3 * p) (by omega) (by decide), cln (n := p) (by omega), cln (n := o + 17 + 3 * p) (by omega), cln (n := o + 18 + 3 * p) (by omega), cln (n := o + 19 + 3 * p) (by omega)]
  by_cases h : sA σ 20 p = 0
  · rw [if_pos h]
    exact (if_pos h : _)
  · rw [if_neg h]
    exact (if_neg h : _)
theorem F_save (ho : o ≤ 616) : RnV (ev (d + 1) 136 0 [(0, .ref 5), (1, .ref 38), (2, .int (nI o))] [] (mkH σ)) (fun τ => Ag [10038] σ τ ∧ SV σ τ o ∧ SB σ τ o 4 ∧ SP σ τ o 9) := by
  rw [g_Fleet_save_0, if_neg (nI_pos (by omega)), if_pos (show nI o ≤ (660 : Int32) - 44 from nI_le (a := o) (b := 616) ho (by decide)), ixn (k := o) (by omega) (by decide), cond_true, cln (n := o) (by omega), nI_1]
  refine lpG (α := Sg) (n := 4) (P := fun k ρ => Ag [10038] σ ρ ∧ SV σ ρ o ∧ SB σ ρ o k)
    (f := fun k ρ => ev (d + 1) 136 29 [(0, .ref 5), (1, .ref 38), (2, .int (nI o)), (3, .int (nI (o + 1 + 4 * k))), (4, .int (nI k))] [] (mkH ρ)) (Q := fun o => RnV o _) ?_ ?_ 4 0 (uA σ 38 o (sI σ 322)) (by omega) ⟨Ag.A Ag.rf rfl, ⟨fun i hi => upN (by omega), upS⟩, fun i hi => absurd hi (Nat.not_lt_zero i)⟩
  · rintro b ρ hb ⟨p1, p2, p3⟩ nx
    show RnV (ev (d + 1) 136 29 [(0, .ref 5), (1, .ref 38), (2, .int (nI o)), (3, .int (nI (o + 1 + 4 * b))), (4, .int (nI b))] [] (mkH ρ)) _
    rw [save1 hb ho, p1.2.1 10 rfl, p1.2.1 11 rfl, p1.2.1 12 rfl, p1.2.1 13 rfl]
    refine nx _ ⟨Ag.A (Ag.A (Ag.A (Ag.A p1 rfl) rfl) rfl) rfl, ⟨fun i hi => ?_, ?_⟩, fun c hc => ?_⟩
    · show upd (upd (upd (upd (sA ρ 38) (o + 1 + 4 * b) _) (o + 2 + 4 * b) _) (o + 3 + 4 * b) _) (o + 4 + 4 * b) _ i = _
      rw [upN (by omega), upN (by omega), upN (by omega), upN (by omega)]; exact p2.1 i hi
    · show upd (upd (upd (upd (sA ρ 38) (o + 1 + 4 * b) _) (o + 2 + 4 * b) _) (o + 3 + 4 * b) _) (o + 4 + 4 * b) _ o = _
      rw [upN (by omega), upN (by omega), upN (by omega), upN (by omega)]; exact p2.2
    · show upd (upd (upd (upd (sA ρ 38) (o + 1 + 4 * b) _) (o + 2 + 4 * b) _) (o + 3 + 4 * b) _) (o + 4 + 4 * b) _ _ = _ ∧ upd (upd (upd (upd (sA ρ 38) (o + 1 + 4 * b) _) (o + 2 + 4 * b) _) (o + 3 + 4 * b) _) (o + 4 + 4 * b) _ _ = _ ∧ upd (upd (upd (upd (sA ρ 38) (o + 1 + 4 * b) _) (o + 2 + 4 * b) _) (o + 3 + 4 * b) _) (o + 4 + 4 * b) _ _ = _ ∧ upd (upd (upd (upd (sA ρ 38) (o + 1 + 4 * b) _) (o + 2 + 4 * b) _) (o + 3 + 4 * b) _) (o + 4 + 4 * b) _ _ = _
      by_cases e : c = b
      · subst e
        refine ⟨?_, ?_, ?_, ?_⟩
        · rw [upN (by omega), upN (by omega), upN (by omega), upS]
        · rw [upN (by omega), upN (by omega), upS]
        · rw [upN (by omega), upS]
        · rw [upS]
      · obtain ⟨q1, q2, q3, q4⟩ := p3 c (by omega)
        refine ⟨?_, ?_, ?_, ?_⟩
        · rw [upN (by omega), upN (by omega), upN (by omega), upN (by omega)]; exact q1
        · rw [upN (by omega), upN (by omega), upN (by omega), upN (by omega)]; exact q2
        · rw [upN (by omega), upN (by omega), upN (by omega), upN (by omega)]; exact q3
        · rw [upN (by omega), upN (by omega), upN (by omega), upN (by omega)]; exact q4
  · rintro ρ0 ⟨r1, r2, r3⟩
    show RnV (ev (d + 1) 136 29 [(0, .ref 5), (1, .ref 38), (2, .int (nI o)), (3, .int (nI (o + 17))), (4, .int (nI 4))] [] (mkH ρ0)) _
    rw [g_Fleet_save_29, if_pos (by decide)]
    refine lpG (α := Sg) (n := 9) (P := fun k ρ => Ag [10038] σ ρ ∧ SV σ ρ o ∧ SB σ ρ o 4 ∧ SP σ ρ o k)
      (f := fun k ρ => ev (d + 1) 136 104 [(0, .ref 5), (1, .ref 38), (2, .int (nI o)), (3, .int (nI (o + 17 + 3 * k))), (4, .int (nI k))] [] (mkH ρ)) (Q := fun o => RnV o _) ?_ ?_ 9 0 ρ0 (by omega) ⟨r1, r2, r3, fun i hi => absurd hi (Nat.not_lt_zero i)⟩
    · rintro p ρ hp ⟨p1, p2, p3, p4⟩ nx
      show RnV (ev (d + 1) 136 104 [(0, .ref 5), (1, .ref 38), (2, .int (nI o)), (3, .int (nI (o + 17 + 3 * p))), (4, .int (nI p))] [] (mkH ρ)) _
      rw [save2 hp ho, p1.2.1 19 rfl, p1.2.1 20 rfl, p1.2.1 21 rfl]
      refine nx _ ⟨Ag.A (Ag.A (Ag.A p1 rfl) rfl) rfl, ⟨fun i hi => ?_, ?_⟩, fun c hc => ?_, fun c hc => ?_⟩
      · show upd (upd (upd (sA ρ 38) (o + 17 + 3 * p) _) (o + 18 + 3 * p) _) (o + 19 + 3 * p) _ i = _
        rw [upN (by omega), upN (by omega), upN (by omega)]; exact p2.1 i hi
      · show upd (upd (upd (sA ρ 38) (o + 17 + 3 * p) _) (o + 18 + 3 * p) _) (o + 19 + 3 * p) _ o = _
        rw [upN (by omega), upN (by omega), upN (by omega)]; exact p2.2
      · obtain ⟨q1, q2, q3, q4⟩ := p3 c hc
        show upd (upd (upd (sA ρ 38) (o + 17 + 3 * p) _) (o + 18 + 3 * p) _) (o + 19 + 3 * p) _ _ = _ ∧ upd (upd (upd (sA ρ 38) (o + 17 + 3 * p) _) (o + 18 + 3 * p) _) (o + 19 + 3 * p) _ _ = _ ∧ upd (upd (upd (sA ρ 38) (o + 17 + 3 * p) _) (o + 18 + 3 * p) _) (o + 19 + 3 * p) _ _ = _ ∧ upd (upd (upd (sA ρ 38) (o + 17 + 3 * p) _) (o + 18 + 3 * p) _) (o + 19 + 3 * p) _ _ = _
        refine ⟨?_, ?_, ?_, ?_⟩
        · rw [upN (by omega), upN (by omega), upN (by omega)]; exact q1
        · rw [upN (by omega), upN (by omega), upN (by omega)]; exact q2
        · rw [upN (by omega), upN (by omega), upN (by omega)]; exact q3
        · rw [upN (by omega), upN (by omega), upN (by omega)]; exact q4
      · show upd (upd (upd (sA ρ 38) (o + 17 + 3 * p) _) (o + 18 + 3 * p) _) (o + 19 + 3 * p) _ _ = _ ∧ upd (upd (upd (sA ρ 38) (o + 17 + 3 * p) _) (o + 18 + 3 * p) _) (o + 19 + 3 * p) _ _ = _ ∧ upd (upd (upd (sA ρ 38) (o + 17 + 3 * p) _) (o + 18 + 3 * p) _) (o + 19 + 3 * p) _ _ = _
        by_cases e : c = p
        · subst e
          refine ⟨?_, ?_, ?_⟩
          · rw [upN (by omega), upN (by omega), upS]
          · rw [upN (by omega), upS]
          · rw [upS]
        · obtain ⟨q1, q2, q3⟩ := p4 c (by omega)
          refine ⟨?_, ?_, ?_⟩
          · rw [upN (by omega), upN (by omega), upN (by omega)]; exact q1
          · rw [upN (by omega), upN (by omega), upN (by omega)]; exact q2
          · rw [upN (by omega), upN (by omega), upN (by omega)]; exact q3
    · rintro ρ ⟨p1, p2, p3, p4⟩
      show RnV (ev (d + 1) 136 104 [(0, .ref 5), (1, .ref 38), (2, .int (nI o)), (3, .int (nI (o + 17 + 3 * 9))), (4, .int (nI 9))] [] (mkH ρ)) _
      rw [g_Fleet_save_104, if_pos (by decide)]
      exact RnV.mk ⟨p1, p2, p3, p4⟩
theorem K_save (h : CWo W f σ) (ho : o ≤ 616) : RnV (ev (d + 1) 136 0 [(0, .ref 5), (1, .ref 38), (2, .int (nI o))] [] (mkH σ)) (fun τ => Ag [10038] σ τ ∧ Lv W (cS (sA τ 38) o) f ∧ ∀ i, i < o ∨ o + 44 ≤ i → sA τ 38 i = sA σ 38 i) := by
  have w4 := h.1.1
  have w9 := h.1.2.1
  refine (F_save ho).im (fun τ ⟨k1, k2, k3, k4⟩ => ⟨k1, ⟨fun b hb => ?_, fun p hp => ?_, ?_⟩, k2.1⟩)
  · obtain ⟨q1, q2, q3, q4⟩ := k3 b (by omega)
    obtain ⟨r1, r2, r3, r4⟩ := h.2.2.2.2.1.1 b hb
    rw [cS_c (by omega), cS_h (by omega), cS_g (by omega), cS_t (by omega), q1, q2, q3, q4]
    refine ⟨r1, r2, r3, ?_⟩
    rw [show sA σ 13 b = f (12 + b) from r4]; exact z1_if (h.2.1.1 b hb).2.2.2
  · obtain ⟨q1, q2, q3⟩ := k4 p (by omega)
    obtain ⟨r1, r2, r3⟩ := h.2.2.2.2.1.2.1 p hp
    rw [cS_b (by omega), cS_a (by omega), cS_i (by omega), q1, q2, q3]
    refine ⟨r1, ?_, r3⟩
    rw [show sA σ 20 p = f (25 + p) from r2]; exact z1_if (h.2.1.2 p hp).2.1
  · rw [cS_o, k2.2]; exact h.2.2.2.2.1.2.2
def kBr : List Nat := [10010, 10011, 10012, 10013, 10019, 10020, 10021, 322]
theorem nar1 : vp_nar .boolean 1 = 1 := by decide
theorem nar0 : vp_nar .boolean 0 = 0 := by decide
theorem bring1 {b : Nat} (hb : b < 4) (ho : o ≤ 616) {xo : Int32} : ev (d + 1) 137 29 [(0, .ref 5), (1, .ref 38), (2, .int xo), (3, .int (nI (o + 1 + 4 * b))), (4, .int (nI b))] [] (mkH σ) = ev (d + 1) 137 29 [(0, .ref 5), (1, .ref 38), (2, .int xo), (3, .int (nI (o + 1 + 4 * (b + 1)))), (4, .int (nI (b + 1)))] [] (mkH (uA (uA (uA (uA σ 10 b (sA σ 38 (o + 1 + 4 * b))) 11 b (sA σ 38 (o + 2 + 4 * b))) 12 b (sA σ 38 (o + 3 + 4 * b))) 13 b (if sA σ 38 (o + 4 + 4 * b) = 1 then 1 else 0))) := by
  rw [g_Fleet_bring_29, if_neg (show ¬ (4 : Int32) ≤ nI b from nI_ge (a := b) (b := 4) hb (by decide)), ixn (k := b) hb (by decide), ad1 (o + 1 + 4 * b) (o + 2 + 4 * b) (by omega), ad1 (o + 2 + 4 * b) (o + 3 + 4 * b) (by omega), ad1 (o + 3 + 4 * b) (o + 4 + 4 * b) (by omega), ad1 (o + 4 + 4 * b) (o + 1 + 4 * (b + 1)) (by omega), nI_1, ixn (k := o + 1 + 4 * b) (by omega) (by decide), ixn (k := o + 2 + 4 * b) (by omega) (by decide), ixn (k := o + 3 + 4 * b) (by omega) (by decide), ixn (k := o + 4 + 4 * b) (by omega) (by decide), cln (n := b) (by omega), cln (n := o + 1 + 4 * b) (by omega), cln (n := o + 2 + 4 * b) (by omega), cln (n := o + 3 + 4 * b) (by omega), cln (n := o + 4 + 4 * b) (by omega), nar1, nar0]
  by_cases h : sA σ 38 (o + 4 + 4 * b) = 1
  · rw [if_pos h]
    exact (if_pos h : _)
  · rw [if_neg h]
    exact (if_neg h : _)
theorem bring2 {p : Nat} (hp : p < 9) (ho : o ≤ 616) {xo : Int32} : ev (d + 1) 137 105 [(0, .ref 5), (1, .ref 38), (2, .int xo), (3, .int (nI (o + 17 + 3 * p))), (4, .int (nI p))] [] (mkH σ) = ev (d + 1) 137 105 [(0, .ref 5), (1, .ref 38), (2, .int xo), (3, .int (nI (o + 17 + 3 * (p + 1)))), (4, .int (nI (p + 1)))] [] (mkH (uA (uA (uA σ 19 p (sA σ 38 (o + 17 + 3 * p))) 20 p (if sA σ 38 (o + 18 + 3 * p) = 1 then 1 else 0)) 21 p (sA σ 38 (o + 19 + 3 * p)))) := by
  rw [g_Fleet_bring_105, if_neg (show ¬ (9 : Int32) ≤ nI p from nI_ge (a := p) (b := 9) hp (by decide)), ixn (k := p) hp (by decide), ad1 (o + 17 + 3 * p) (o + 18 + 3 * p) (by omega), ad1 (o + 18 + 3 * p) (o + 19 + 3 * p) (by omega), ad1 (o + 19 + 3 * p) (o + 17 + 3 * (p + 1)) (by omega), nI_1, ixn (k := o + 17 + 3 * p) (by omega) (by decide), ixn (k := o + 18 + 3 * p) (by omega) (by decide), ixn (k := o + 19 + 3 * p) (by omega) (by decide), cln (n := p) (by omega), cln (n := o + 17 + 3 * p) (by omega), cln (n := o + 18 + 3 * p) (by omega), cln (n := o + 19 + 3 * p) (by omega), nar1, nar0]
  by_cases h : sA σ 38 (o + 18 + 3 * p) = 1
  · rw [if_pos h]
    exact (if_pos h : _)
  · rw [if_neg h]
    exact (if_neg h : _)
def BB (σ τ : Sg) (o k : Nat) : Prop := ∀ b, b < k → sA τ 10 b = sA σ 38 (o + 1 + 4 * b) ∧ sA τ 11 b = sA σ 38 (o + 2 + 4 * b) ∧ sA τ 12 b = sA σ 38 (o + 3 + 4 * b) ∧ sA τ 13 b = (if sA σ 38 (o + 4 + 4 * b) = 1 then 1 else 0)
def BP (σ τ : Sg) (o k : Nat) : Prop := ∀ p, p < k → sA τ 19 p = sA σ 38 (o + 17 + 3 * p) ∧ sA τ 20 p = (if sA σ 38 (o + 18 + 3 * p) = 1 then 1 else 0) ∧ sA τ 21 p = sA σ 38 (o + 19 + 3 * p)
theorem F_bring (ho : o ≤ 616) : RnV (ev (d + 1) 137 0 [(0, .ref 5), (1, .ref 38), (2, .int (nI o))] [] (mkH σ)) (fun τ => Ag kBr σ τ ∧ sI τ 322 = sA σ 38 o ∧ BB σ τ o 4 ∧ BP σ τ o 9) := by
  rw [g_Fleet_bring_0, if_neg (nI_pos (by omega)), if_pos (show nI o ≤ (660 : Int32) - 44 from nI_le (a := o) (b := 616) ho (by decide)), ixn (k := o) (by omega) (by decide), cond_true, cln (n := o) (by omega), nI_1]
  refine lpG (α := Sg) (n := 4) (P := fun k ρ => Ag kBr σ ρ ∧ sI ρ 322 = sA σ 38 o ∧ BB σ ρ o k)
    (f := fun k ρ => ev (d + 1) 137 29 [(0, .ref 5), (1, .ref 38), (2, .int (nI o)), (3, .int (nI (o + 1 + 4 * k))), (4, .int (nI k))] [] (mkH ρ)) (Q := fun o => RnV o _) ?_ ?_ 4 0 (uI σ 322 (sA σ 38 o)) (by omega) ⟨Ag.I Ag.rf rfl, rfl, fun i hi => absurd hi (Nat.not_lt_zero i)⟩
  · rintro b ρ hb ⟨p1, p2, p3⟩ nx
    show RnV (ev (d + 1) 137 29 [(0, .ref 5), (1, .ref 38), (2, .int (nI o)), (3, .int (nI (o + 1 + 4 * b))), (4, .int (nI b))] [] (mkH ρ)) _
    rw [bring1 hb ho, p1.2.1 38 rfl]
    refine nx _ ⟨Ag.A (Ag.A (Ag.A (Ag.A p1 rfl) rfl) rfl) rfl, p2, fun c hc => ?_⟩
    show upd (sA ρ 10) b _ c = _ ∧ upd (sA ρ 11) b _ c = _ ∧ upd (sA ρ 12) b _ c = _ ∧ upd (sA ρ 13) b _ c = _
    by_cases e : c = b
    · subst e
      rw [upS, upS, upS, upS]; exact ⟨rfl, rfl, rfl, rfl⟩
    · rw [upN e, upN e, upN e, upN e]; exact p3 c (by omega)
  · rintro ρ0 ⟨r1, r2, r3⟩
    show RnV (ev (d + 1) 137 29 [(0, .ref 5), (1, .ref 38), (2, .int (nI o)), (3, .int (nI (o + 17))), (4, .int (nI 4))] [] (mkH ρ0)) _
    rw [g_Fleet_bring_29, if_pos (by decide)]
    refine lpG (α := Sg) (n := 9) (P := fun k ρ => Ag kBr σ ρ ∧ sI ρ 322 = sA σ 38 o ∧ BB σ ρ o 4 ∧ BP σ ρ o k)
      (f := fun k ρ => ev (d + 1) 137 105 [(0, .ref 5), (1, .ref 38), (2, .int (nI o)), (3, .int (nI (o + 17 + 3 * k))), (4, .int (nI k))] [] (mkH ρ)) (Q := fun o => RnV o _) ?_ ?_ 9 0 ρ0 (by omega) ⟨r1, r2, r3, fun i hi => absurd hi (Nat.not_lt_zero i)⟩
    · rintro p ρ hp ⟨p1, p2, p3, p4⟩ nx
      show RnV (ev (d + 1) 137 105 [(0, .ref 5), (1, .ref 38), (2, .int (nI o)), (3, .int (nI (o + 17 + 3 * p))), (4, .int (nI p))] [] (mkH ρ)) _
      rw [bring2 hp ho, p1.2.1 38 rfl]
      refine nx _ ⟨Ag.A (Ag.A (Ag.A p1 rfl) rfl) rfl, p2, p3, fun c hc => ?_⟩
      show upd (sA ρ 19) p _ c = _ ∧ upd (sA ρ 20) p _ c = _ ∧ upd (sA ρ 21) p _ c = _
      by_cases e : c = p
      · subst e
        rw [upS, upS, upS]; exact ⟨rfl, rfl, rfl⟩
      · rw [upN e, upN e, upN e]; exact p4 c (by omega)
    · rintro ρ ⟨p1, p2, p3, p4⟩
      show RnV (ev (d + 1) 137 105 [(0, .ref 5), (1, .ref 38), (2, .int (nI o)), (3, .int (nI (o + 17 + 3 * 9))), (4, .int (nI 9))] [] (mkH ρ)) _
      rw [g_Fleet_bring_105, if_pos (by decide)]
      exact RnV.mk ⟨p1, p2, p3, p4⟩
theorem K_bring (h : CWo W f σ) (hg : OK W g) (hl : Lv W (cS (sA σ 38) o) g) (ho : o ≤ 616) : RnV (ev (d + 1) 137 0 [(0, .ref 5), (1, .ref 38), (2, .int (nI o))] [] (mkH σ)) (fun τ => Ag kBr σ τ ∧ CWo W g τ) := by
  have w4 := h.1.1
  have w9 := h.1.2.1
  refine (F_bring ho).im (fun τ ⟨k1, k2, k3, k4⟩ => ⟨k1, h.1, hg, h.2.2.1.ag k1 rfl, h.2.2.2.1.ag k1 rfl, ⟨fun b hb => ?_, fun p hp => ?_, ?_⟩, ?_⟩)
  · obtain ⟨q1, q2, q3, q4⟩ := k3 b (by omega)
    obtain ⟨r1, r2, r3, r4⟩ := hl.1 b hb
    rw [cS_c (by omega)] at r1
    rw [cS_h (by omega)] at r2
    rw [cS_g (by omega)] at r3
    rw [cS_t (by omega)] at r4
    refine ⟨q1.trans r1, q2.trans r2, q3.trans r3, q4.trans ?_⟩
    rw [r4]; exact z1_if1 (hg.1 b hb).2.2.2
  · obtain ⟨q1, q2, q3⟩ := k4 p (by omega)
    obtain ⟨r1, r2, r3⟩ := hl.2.1 p hp
    rw [cS_b (by omega)] at r1
    rw [cS_a (by omega)] at r2
    rw [cS_i (by omega)] at r3
    refine ⟨q1.trans r1, q2.trans ?_, q3.trans r3⟩
    rw [r2]; exact z1_if1 (hg.2 p hp).2.1
  · exact k2.trans hl.2.2
  · rw [k1.2.2.2.1 0 rfl]; exact h.2.2.2.2.2.ag k1 (by cases sB σ 0 <;> rfl)
theorem N_lay_nu (ho : o ≤ 484) : RnV (ev (d + 1) 55 0 [(0, .ref 51), (1, .ref 60), (2, .int (nI o))] [] (mkH σ)) (fun τ => Ag [10060] σ τ ∧ (∀ i, i < 44 → sA τ 60 (o + i) = sA σ 51 i) ∧ ∀ i, i < o ∨ o + 44 ≤ i → sA τ 60 i = sA σ 60 i) := by
  rw [g_Model_lay_nu_0]
  refine lpG (α := Sg) (n := 44) (P := fun k ρ => Ag [10060] σ ρ ∧ (∀ i, i < k → sA ρ 60 (o + i) = sA σ 51 i) ∧ ∀ i, i < o ∨ o + 44 ≤ i → sA ρ 60 i = sA σ 60 i)
    (f := fun k ρ => ev (d + 1) 55 2 [(0, .ref 51), (1, .ref 60), (2, .int (nI o)), (3, .int (nI k))] [] (mkH ρ)) (Q := fun o => RnV o _) ?_ ?_ 44 0 σ (by omega) ⟨Ag.rf, fun i hi => absurd hi (Nat.not_lt_zero i), fun i hi => rfl⟩
  · rintro k ρ hk ⟨p1, p2, p3⟩ nx
    show RnV (ev (d + 1) 55 2 [(0, .ref 51), (1, .ref 60), (2, .int (nI o)), (3, .int (nI k))] [] (mkH ρ)) _
    rw [g_Model_lay_nu_2, if_neg (show ¬ (44 : Int32) ≤ nI k from nI_ge (a := k) (b := 44) hk (by decide)), ixn (k := k) hk (by decide), cond_true, nI_add, ixn (k := o + k) (by omega) (by decide), cond_true, cln (n := k) (by omega), cln (n := o + k) (by omega), nI_1, p1.2.1 51 rfl]
    refine nx _ ⟨Ag.A p1 rfl, fun i hi => ?_, fun i hi => ?_⟩
    · show upd (sA ρ 60) (o + k) _ (o + i) = _
      by_cases e : i = k
      · subst e; rw [upS]
      · rw [upN (by omega)]; exact p2 i (by omega)
    · show upd (sA ρ 60) (o + k) _ i = _
      rw [upN (by omega)]; exact p3 i hi
  · rintro ρ ⟨p1, p2, p3⟩
    show RnV (ev (d + 1) 55 2 [(0, .ref 51), (1, .ref 60), (2, .int (nI o)), (3, .int (nI 44))] [] (mkH ρ)) _
    rw [g_Model_lay_nu_2, if_pos (by decide)]
    exact RnV.mk ⟨p1, p2, p3⟩
theorem N_lay_nk (ho : o ≤ 44) : RnV (ev (d + 1) 55 0 [(0, .ref 51), (1, .ref 71), (2, .int (nI o))] [] (mkH σ)) (fun τ => Ag [10071] σ τ ∧ (∀ i, i < 44 → sA τ 71 (o + i) = sA σ 51 i) ∧ ∀ i, i < o ∨ o + 44 ≤ i → sA τ 71 i = sA σ 71 i) := by
  rw [g_Model_lay_nk_0]
  refine lpG (α := Sg) (n := 44) (P := fun k ρ => Ag [10071] σ ρ ∧ (∀ i, i < k → sA ρ 71 (o + i) = sA σ 51 i) ∧ ∀ i, i < o ∨ o + 44 ≤ i → sA ρ 71 i = sA σ 71 i)
    (f := fun k ρ => ev (d + 1) 55 2 [(0, .ref 51), (1, .ref 71), (2, .int (nI o)), (3, .int (nI k))] [] (mkH ρ)) (Q := fun o => RnV o _) ?_ ?_ 44 0 σ (by omega) ⟨Ag.rf, fun i hi => absurd hi (Nat.not_lt_zero i), fun i hi => rfl⟩
  · rintro k ρ hk ⟨p1, p2, p3⟩ nx
    show RnV (ev (d + 1) 55 2 [(0, .ref 51), (1, .ref 71), (2, .int (nI o)), (3, .int (nI k))] [] (mkH ρ)) _
    rw [g_Model_lay_nk_2, if_neg (show ¬ (44 : Int32) ≤ nI k from nI_ge (a := k) (b := 44) hk (by decide)), ixn (k := k) hk (by decide), cond_true, nI_add, ixn (k := o + k) (by omega) (by decide), cond_true, cln (n := k) (by omega), cln (n := o + k) (by omega), nI_1, p1.2.1 51 rfl]
    refine nx _ ⟨Ag.A p1 rfl, fun i hi => ?_, fun i hi => ?_⟩
    · show upd (sA ρ 71) (o + k) _ (o + i) = _
      by_cases e : i = k
      · subst e; rw [upS]
      · rw [upN (by omega)]; exact p2 i (by omega)
    · show upd (sA ρ 71) (o + k) _ i = _
      rw [upN (by omega)]; exact p3 i hi
  · rintro ρ ⟨p1, p2, p3⟩
    show RnV (ev (d + 1) 55 2 [(0, .ref 51), (1, .ref 71), (2, .int (nI o)), (3, .int (nI 44))] [] (mkH ρ)) _
    rw [g_Model_lay_nk_2, if_pos (by decide)]
    exact RnV.mk ⟨p1, p2, p3⟩
theorem N_lay_na (ho : o ≤ 0) : RnV (ev (d + 1) 55 0 [(0, .ref 51), (1, .ref 61), (2, .int (nI o))] [] (mkH σ)) (fun τ => Ag [10061] σ τ ∧ (∀ i, i < 44 → sA τ 61 (o + i) = sA σ 51 i) ∧ ∀ i, i < o ∨ o + 44 ≤ i → sA τ 61 i = sA σ 61 i) := by
  rw [g_Model_lay_na_0]
  refine lpG (α := Sg) (n := 44) (P := fun k ρ => Ag [10061] σ ρ ∧ (∀ i, i < k → sA ρ 61 (o + i) = sA σ 51 i) ∧ ∀ i, i < o ∨ o + 44 ≤ i → sA ρ 61 i = sA σ 61 i)
    (f := fun k ρ => ev (d + 1) 55 2 [(0, .ref 51), (1, .ref 61), (2, .int (nI o)), (3, .int (nI k))] [] (mkH ρ)) (Q := fun o => RnV o _) ?_ ?_ 44 0 σ (by omega) ⟨Ag.rf, fun i hi => absurd hi (Nat.not_lt_zero i), fun i hi => rfl⟩
  · rintro k ρ hk ⟨p1, p2, p3⟩ nx
    show RnV (ev (d + 1) 55 2 [(0, .ref 51), (1, .ref 61), (2, .int (nI o)), (3, .int (nI k))] [] (mkH ρ)) _
    rw [g_Model_lay_na_2, if_neg (show ¬ (44 : Int32) ≤ nI k from nI_ge (a := k) (b := 44) hk (by decide)), ixn (k := k) hk (by decide), cond_true, nI_add, ixn (k := o + k) (by omega) (by decide), cond_true, cln (n := k) (by omega), cln (n := o + k) (by omega), nI_1, p1.2.1 51 rfl]
    refine nx _ ⟨Ag.A p1 rfl, fun i hi => ?_, fun i hi => ?_⟩
    · show upd (sA ρ 61) (o + k) _ (o + i) = _
      by_cases e : i = k
      · subst e; rw [upS]
      · rw [upN (by omega)]; exact p2 i (by omega)
    · show upd (sA ρ 61) (o + k) _ i = _
      rw [upN (by omega)]; exact p3 i hi
  · rintro ρ ⟨p1, p2, p3⟩
    show RnV (ev (d + 1) 55 2 [(0, .ref 51), (1, .ref 61), (2, .int (nI o)), (3, .int (nI 44))] [] (mkH ρ)) _
    rw [g_Model_lay_na_2, if_pos (by decide)]
    exact RnV.mk ⟨p1, p2, p3⟩
theorem N_lay_au (ho : o ≤ 484) : RnV (ev (d + 1) 55 0 [(0, .ref 61), (1, .ref 60), (2, .int (nI o))] [] (mkH σ)) (fun τ => Ag [10060] σ τ ∧ (∀ i, i < 44 → sA τ 60 (o + i) = sA σ 61 i) ∧ ∀ i, i < o ∨ o + 44 ≤ i → sA τ 60 i = sA σ 60 i) := by
  rw [g_Model_lay_au_0]
  refine lpG (α := Sg) (n := 44) (P := fun k ρ => Ag [10060] σ ρ ∧ (∀ i, i < k → sA ρ 60 (o + i) = sA σ 61 i) ∧ ∀ i, i < o ∨ o + 44 ≤ i → sA ρ 60 i = sA σ 60 i)
    (f := fun k ρ => ev (d + 1) 55 2 [(0, .ref 61), (1, .ref 60), (2, .int (nI o)), (3, .int (nI k))] [] (mkH ρ)) (Q := fun o => RnV o _) ?_ ?_ 44 0 σ (by omega) ⟨Ag.rf, fun i hi => absurd hi (Nat.not_lt_zero i), fun i hi => rfl⟩
  · rintro k ρ hk ⟨p1, p2, p3⟩ nx
    show RnV (ev (d + 1) 55 2 [(0, .ref 61), (1, .ref 60), (2, .int (nI o)), (3, .int (nI k))] [] (mkH ρ)) _
    rw [g_Model_lay_au_2, if_neg (show ¬ (44 : Int32) ≤ nI k from nI_ge (a := k) (b := 44) hk (by decide)), ixn (k := k) hk (by decide), cond_true, nI_add, ixn (k := o + k) (by omega) (by decide), cond_true, cln (n := k) (by omega), cln (n := o + k) (by omega), nI_1, p1.2.1 61 rfl]
    refine nx _ ⟨Ag.A p1 rfl, fun i hi => ?_, fun i hi => ?_⟩
    · show upd (sA ρ 60) (o + k) _ (o + i) = _
      by_cases e : i = k
      · subst e; rw [upS]
      · rw [upN (by omega)]; exact p2 i (by omega)
    · show upd (sA ρ 60) (o + k) _ i = _
      rw [upN (by omega)]; exact p3 i hi
  · rintro ρ ⟨p1, p2, p3⟩
    show RnV (ev (d + 1) 55 2 [(0, .ref 61), (1, .ref 60), (2, .int (nI o)), (3, .int (nI 44))] [] (mkH ρ)) _
    rw [g_Model_lay_au_2, if_pos (by decide)]
    exact RnV.mk ⟨p1, p2, p3⟩
end P1
