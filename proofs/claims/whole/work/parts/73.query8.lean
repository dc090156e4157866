/-! Questions: seats, pairs -/
theorem accA_stay {α : Type} {g : Nat → α → α} {a : α} {k : Nat} : ∀ m, (∀ j, k ≤ j → j < k + m → g j (accA g k a) = accA g k a) → accA g (k + m) a = accA g k a
  | 0, _ => rfl
  | m + 1, h => by
    show g (k + m) (accA g (k + m) a) = _
    rw [accA_stay m (fun j h1 h2 => h j h1 (by omega))]
    exact h (k + m) (by omega) (by omega)
abbrev Be : Type := Int32 × List Int64
section Q8
variable {d : Nat} {σ : Sg} {W : Wd} {f g : Nat → Int32} {x1 x2 : Int32}
theorem cnt_n {P : Nat → Bool} : ∀ n, ∃ j, j ≤ n ∧ accF (cntF P) n 0 = nI j
  | 0 => ⟨0, Nat.le_refl _, rfl⟩
  | n + 1 => by
    obtain ⟨j, h1, h2⟩ := cnt_n (P := P) n
    show ∃ j, j ≤ n + 1 ∧ (bif P n then accF (cntF P) n 0 + 1 else accF (cntF P) n 0) = nI j
    cases P n
    · exact ⟨j, by omega, h2⟩
    · exact ⟨j + 1, by omega, by rw [cond_true, h2, nI_1]⟩
theorem tm_n (hW : WO W) (g : Nat → Int32) : ∃ j, j ≤ wb W ∧ tmF W g = nI j := by
  have := hW.1
  unfold tmF thF
  rw [bc_bits (by omega)]
  exact cnt_n _
theorem tm_le (hW : WO W) {g : Nat → Int32} {x : Int32} (h : nI (wb W) ≤ x) : tmF W g ≤ x := by
  obtain ⟨j, h1, h2⟩ := tm_n hW g
  have := hW.1
  rw [h2]
  exact Int32.le_trans (nI_le h1 (by omega)) h
def o1G (W : Wd) (f : Nat → Int32) (n p b : Nat) (s : Be) : Be := if f (16 + p) = nI b then s else if tmF W (itF W (upd f (16 + p) (nI b)) n).1 ≤ s.1 then s else (tmF W (itF W (upd f (16 + p) (nI b)) n).1, [(nI p).toInt64, (nI b).toInt64])
def o1I (W : Wd) (f : Nat → Int32) (n p k : Nat) (s : Be) : Be := accA (o1G W f n p) k s
def o1A (W : Wd) (f : Nat → Int32) (n k : Nat) : Be := accA (fun p s => o1I W f n p (wb W) s) k (tmF W (itF W f n).1, [])
theorem o1_len {n k : Nat} : (o1A W f n k).2.length ≤ 2 := by
  refine accA_inv (P := fun (s : Be) => s.2.length ≤ 2) k (by show 0 ≤ 2; decide) (fun p s _ hs => ?_)
  refine accA_inv (P := fun (s : Be) => s.2.length ≤ 2) (wb W) hs (fun b s _ hs => ?_)
  unfold o1G
  split
  · exact hs
  · split
    · exact hs
    · show 2 ≤ 2
      decide
def t2G (W : Wd) (f : Nat → Int32) (n p b q c : Nat) (s : Be) : Be := if f (16 + q) = nI c then s else if tmF W (itF W (upd (upd f (16 + p) (nI b)) (16 + q) (nI c)) n).1 ≤ s.1 then s else (tmF W (itF W (upd (upd f (16 + p) (nI b)) (16 + q) (nI c)) n).1, [(nI p).toInt64, (nI b).toInt64, (nI q).toInt64, (nI c).toInt64])
def t2C (W : Wd) (f : Nat → Int32) (n p b q k : Nat) (s : Be) : Be := accA (t2G W f n p b q) k s
def t2Q (W : Wd) (f : Nat → Int32) (n p b k : Nat) (s : Be) : Be := accA (fun j s => t2C W f n p b (p + 1 + j) (wb W) s) k s
def t2B (W : Wd) (f : Nat → Int32) (n p b : Nat) (s : Be) : Be := if f (16 + p) = nI b then s else t2Q W f n p b (wp W - (p + 1)) s
def t2P (W : Wd) (f : Nat → Int32) (n p k : Nat) (s : Be) : Be := accA (t2B W f n p) k s
def t2A (W : Wd) (f : Nat → Int32) (n k : Nat) (s : Be) : Be := accA (fun p s => t2P W f n p (wb W) s) k s
theorem t2_len {n k : Nat} {s : Be} (hs : s.2.length ≤ 4) : (t2A W f n k s).2.length ≤ 4 := by
  refine accA_inv (P := fun (s : Be) => s.2.length ≤ 4) k hs (fun p s _ hs => ?_)
  refine accA_inv (P := fun (s : Be) => s.2.length ≤ 4) (wb W) hs (fun b s _ hs => ?_)
  unfold t2B
  split
  · exact hs
  · refine accA_inv (P := fun (s : Be) => s.2.length ≤ 4) _ hs (fun j s _ hs => ?_)
    refine accA_inv (P := fun (s : Be) => s.2.length ≤ 4) _ hs (fun c s _ hs => ?_)
    unfold t2G
    split
    · exact hs
    · split
      · exact hs
      · show 4 ≤ 4
        decide
/-! full: nothing can be better -/
theorem o1_full (hW : WO W) {n p b : Nat} {s : Be} (h : nI (wb W) ≤ s.1) : o1G W f n p b s = s := by
  unfold o1G
  split
  · rfl
  · rw [if_pos (tm_le hW h)]
theorem t2_full (hW : WO W) {n p b q c : Nat} {s : Be} (h : nI (wb W) ≤ s.1) : t2G W f n p b q c s = s := by
  unfold t2G
  split
  · rfl
  · rw [if_pos (tm_le hW h)]
theorem acc_id {α : Type} {g : Nat → α → α} {a : α} : ∀ n, (∀ j, j < n → g j a = a) → accA g n a = a
  | 0, _ => rfl
  | n + 1, h => by
    show g n (accA g n a) = a
    rw [acc_id n (fun j hj => h j (by omega))]
    exact h n (by omega)
theorem t2C_full (hW : WO W) {n p b q k : Nat} {s : Be} (h : nI (wb W) ≤ s.1) : t2C W f n p b q k s = s := acc_id _ (fun _ _ => t2_full hW h)
theorem t2B_full (hW : WO W) {n p b : Nat} {s : Be} (h : nI (wb W) ≤ s.1) : t2B W f n p b s = s := by
  unfold t2B
  split
  · rfl
  · exact acc_id _ (fun _ _ => t2C_full hW h)
/-! the class -/
theorem C_one (h : CWo W f σ) {n : Nat} (hn : n ≤ 30) : RnI (ev (d + 9) 253 0 [(0, .ref 0), (1, .int (nI n))] [] (mkH σ)) (fun τ x => Ag kQc σ τ ∧ CWo W f τ ∧ x = (o1A W f n (wp W)).1 ∧ TD τ (o1A W f n (wp W)).2) := by
  have w4 := h.1.1
  have w9 := h.1.2.1
  obtain ⟨τ, k1, k2, k3, k4⟩ := K_ahead (d := d + 1) h (xn := nI n) rfl (by omega)
  obtain ⟨τ2, t1, t2, t3⟩ := T_none (d := d + 7) (σ := τ)
  rw [g_Main_bestWithOne_0, c_Main_bestWithOne_2 k1, c_Main_bestWithOne_5 (F_arrF (w := true) k3.1 k3.2.2.1 k3.2.2.2.1), g_Main_bestWithOne_8, c_Main_bestWithOne_13 t1, g_Main_bestWithOne_16]
  refine lpG (α := Sg) (n := wp W) (P := fun k ρ => Ag kQc σ ρ ∧ CWo W f ρ ∧ TD ρ (o1A W f n k).2)
    (f := fun k ρ => ev (d + 9) 253 18 [(0, .ref 0), (1, .int (nI n)), (2, .int (o1A W f n k).1), (3, .int (nI k))] [] (mkH ρ)) (Q := fun o => RnI o _) ?_ ?_ (wp W) 0 τ2 (by omega) ⟨k2.tr (t2.wk rfl), k4.ag t2 rfl, t3⟩
  · rintro p ρ hp ⟨p1, p2, p3⟩ nx
    show RnI (ev (d + 9) 253 18 [(0, .ref 0), (1, .int (nI n)), (2, .int (o1A W f n p).1), (3, .int (nI p))] [] (mkH ρ)) _
    rw [g_Main_bestWithOne_18, show sI ρ 334 = nI (wp W) from p2.2.2.1.2.1, if_neg (nI_ge hp (by omega))]
    have nx : ∀ ρ2, Ag kQc σ ρ2 ∧ CWo W f ρ2 ∧ TD ρ2 (o1I W f n p (wb W) (o1A W f n p)).2 → RnI (ev (d + 9) 253 18 [(0, .ref 0), (1, .int (nI n)), (2, .int (o1I W f n p (wb W) (o1A W f n p)).1), (3, .int (nI (p + 1)))] [] (mkH ρ2)) _ := nx
    generalize o1A W f n p = s0 at p3 nx
    refine lpG (α := Sg) (n := wb W) (P := fun k ρ => Ag kQc σ ρ ∧ CWo W f ρ ∧ TD ρ (o1I W f n p k s0).2)
      (f := fun k ρ => ev (d + 9) 253 32 [(0, .ref 0), (1, .int (nI n)), (2, .int (o1I W f n p k s0).1), (3, .int (nI p)), (4, .int (nI k))] [] (mkH ρ)) (Q := fun o => RnI o _) ?_ ?_ (wb W) 0 ρ (by omega) ⟨p1, p2, p3⟩
    · rintro b ρ hb ⟨r1, r2, r3⟩ nx2
      show RnI (ev (d + 9) 253 32 [(0, .ref 0), (1, .int (nI n)), (2, .int (o1I W f n p b s0).1), (3, .int (nI p)), (4, .int (nI b))] [] (mkH ρ)) _
      have nx2 : ∀ ρ2, Ag kQc σ ρ2 ∧ CWo W f ρ2 ∧ TD ρ2 (o1G W f n p b (o1I W f n p b s0)).2 → RnI (ev (d + 9) 253 32 [(0, .ref 0), (1, .int (nI n)), (2, .int (o1G W f n p b (o1I W f n p b s0)).1), (3, .int (nI p)), (4, .int (nI (b + 1)))] [] (mkH ρ2)) _ := nx2
      rw [g_Main_bestWithOne_32, show sI ρ 325 = nI (wb W) from r2.2.2.1.1, if_neg (nI_ge hb (by omega))]
      by_cases hf : nI (wb W) ≤ (o1I W f n p b s0).1
      · have e : o1I W f n p (wb W) s0 = o1I W f n p b s0 := by
          have := accA_stay (g := o1G W f n p) (a := s0) (k := b) (wb W - b) (fun j _ _ => o1_full h.1 hf)
          rw [show b + (wb W - b) = wb W by omega] at this
          exact this
        rw [if_pos hf, nI_1]
        rw [e] at nx
        exact nx ρ ⟨r1, r2, r3⟩
      · rw [if_neg hf, ixn (k := p) (by omega) (by decide), cond_true, cln (n := p) (by omega), show sA ρ 19 p = f (16 + p) from (r2.2.2.2.2.1.2.1 p hp).1, nI_1]
        unfold o1G at nx2
        by_cases c1 : f (16 + p) = nI b
        · rw [if_pos c1] at nx2 ⊢
          exact nx2 ρ ⟨r1, r2, r3⟩
        · obtain ⟨ρ1, i1, i2, i3, i4⟩ := K_try (d := d + 6) r2 hp hb
          obtain ⟨ρ2, y, j1, j2, j3, j4⟩ := K_pass (d := d + 2) i3 (n := n) (xn := nI n) rfl (by omega)
          rw [if_neg c1] at nx2 ⊢
          rw [c_Main_bestWithOne_73 i1, g_Main_bestWithOne_76, c_Main_bestWithOne_81 j1, g_Main_bestWithOne_84, j4, nI_1]
          have g2 : Ag kQc σ ρ2 ∧ CWo W f ρ2 := ⟨(r1.tr (i2.wk rfl)).tr (j2.wk rfl), i4.ag j2 rfl⟩
          by_cases c2 : tmF W (itF W (upd f (16 + p) (nI b)) n).1 ≤ (o1I W f n p b s0).1
          · rw [if_pos c2] at nx2 ⊢
            exact nx2 ρ2 ⟨g2.1, g2.2, (r3.ag i2 rfl).ag j2 rfl⟩
          · obtain ⟨ρ3, u1, u2, u3⟩ := T_two (d := d + 6) (σ := ρ2) (x := (nI p).toInt64) (y := (nI b).toInt64)
            rw [if_neg c2] at nx2 ⊢
            rw [c_Main_bestWithOne_104 u1, g_Main_bestWithOne_107, nI_1]
            exact nx2 ρ3 ⟨g2.1.tr (u2.wk rfl), g2.2.ag u2 rfl, u3⟩
    · rintro ρ ⟨r1, r2, r3⟩
      show RnI (ev (d + 9) 253 32 [(0, .ref 0), (1, .int (nI n)), (2, .int (o1I W f n p (wb W) s0).1), (3, .int (nI p)), (4, .int (nI (wb W)))] [] (mkH ρ)) _
      rw [g_Main_bestWithOne_32, show sI ρ 325 = nI (wb W) from r2.2.2.1.1, if_pos (nI_le (Nat.le_refl _) (by omega)), nI_1]
      exact nx ρ ⟨r1, r2, r3⟩
  · rintro ρ ⟨p1, p2, p3⟩
    show RnI (ev (d + 9) 253 18 [(0, .ref 0), (1, .int (nI n)), (2, .int (o1A W f n (wp W)).1), (3, .int (nI (wp W)))] [] (mkH ρ)) _
    rw [g_Main_bestWithOne_18, show sI ρ 334 = nI (wp W) from p2.2.2.1.2.1, if_pos (nI_le (Nat.le_refl _) (by omega))]
    exact RnI.mk ⟨p1, p2, rfl, p3⟩
theorem K_also {τ : Sg} (h : TR W g τ) {q c : Nat} (hq : q < wp W) (hc : c < wb W) : TR W (upd g (16 + q) (nI c)) (uA τ 33 q (nI c)) := by
  have a1 : Ag [10033] τ (uA τ 33 q (nI c)) := Ag.A Ag.rf rfl
  have w9 := h.1.2.1
  have w4 := h.1.1
  obtain ⟨t1, t2, t3, t4, t5, t6⟩ := h
  refine ⟨t1, t2.boat t1 (by omega) (ixn hc (by omega)), t3.boat t1 (by omega), t4.ag a1 rfl, t5.ag a1 rfl, ?_⟩
  have e : sB (uA τ 33 q (nI c)) (fb true) = sB τ (fb true) := rfl
  rw [e]
  exact t6.ag a1 (by generalize sB τ (fb true) = u; cases u <;> rfl)
theorem C_two (h : CWo W f σ) {n p b : Nat} (hn : n ≤ 30) (hp : p < wp W) (hb : b < wb W) {s0 : Be} (ht : TD σ s0.2) : RnI (ev (d + 9) 254 0 [(0, .ref 0), (1, .int (nI p)), (2, .int (nI b)), (3, .int (nI n)), (4, .int s0.1)] [] (mkH σ)) (fun τ x => Ag kQc σ τ ∧ CWo W f τ ∧ x = (t2Q W f n p b (wp W - (p + 1)) s0).1 ∧ TD τ (t2Q W f n p b (wp W - (p + 1)) s0).2) := by
  have w4 := h.1.1
  have w9 := h.1.2.1
  rw [g_Main_bestWithTwo_0, nI_1]
  refine lpG (α := Sg) (n := wp W - (p + 1)) (P := fun k ρ => Ag kQc σ ρ ∧ CWo W f ρ ∧ TD ρ (t2Q W f n p b k s0).2)
    (f := fun k ρ => ev (d + 9) 254 9 [(0, .ref 0), (1, .int (nI p)), (2, .int (nI b)), (3, .int (nI n)), (4, .int s0.1), (5, .int (t2Q W f n p b k s0).1), (6, .int (nI (p + 1 + k)))] [] (mkH ρ)) (Q := fun o => RnI o _) ?_ ?_ (wp W - (p + 1)) 0 σ (by omega) ⟨Ag.rf, h, ht⟩
  · rintro j ρ hj ⟨p1, p2, p3⟩ nx
    show RnI (ev (d + 9) 254 9 [(0, .ref 0), (1, .int (nI p)), (2, .int (nI b)), (3, .int (nI n)), (4, .int s0.1), (5, .int (t2Q W f n p b j s0).1), (6, .int (nI (p + 1 + j)))] [] (mkH ρ)) _
    have hq : p + 1 + j < wp W := by omega
    rw [g_Main_bestWithTwo_9, show sI ρ 334 = nI (wp W) from p2.2.2.1.2.1, if_neg (nI_ge hq (by omega))]
    have nx : ∀ ρ2, Ag kQc σ ρ2 ∧ CWo W f ρ2 ∧ TD ρ2 (t2C W f n p b (p + 1 + j) (wb W) (t2Q W f n p b j s0)).2 → RnI (ev (d + 9) 254 9 [(0, .ref 0), (1, .int (nI p)), (2, .int (nI b)), (3, .int (nI n)), (4, .int s0.1), (5, .int (t2C W f n p b (p + 1 + j) (wb W) (t2Q W f n p b j s0)).1), (6, .int (nI (p + 1 + (j + 1))))] [] (mkH ρ2)) _ := nx
    rw [show p + 1 + (j + 1) = p + 1 + j + 1 by omega] at nx
    generalize t2Q W f n p b j s0 = s1 at p3 nx
    generalize p + 1 + j = q at hq nx
    refine lpG (α := Sg) (n := wb W) (P := fun k ρ => Ag kQc σ ρ ∧ CWo W f ρ ∧ TD ρ (t2C W f n p b q k s1).2)
      (f := fun k ρ => ev (d + 9) 254 24 [(0, .ref 0), (1, .int (nI p)), (2, .int (nI b)), (3, .int (nI n)), (4, .int s0.1), (5, .int (t2C W f n p b q k s1).1), (6, .int (nI q)), (7, .int (nI k))] [] (mkH ρ)) (Q := fun o => RnI o _) ?_ ?_ (wb W) 0 ρ (by omega) ⟨p1, p2, p3⟩
    · rintro c ρ hc ⟨r1, r2, r3⟩ nx2
      show RnI (ev (d + 9) 254 24 [(0, .ref 0), (1, .int (nI p)), (2, .int (nI b)), (3, .int (nI n)), (4, .int s0.1), (5, .int (t2C W f n p b q c s1).1), (6, .int (nI q)), (7, .int (nI c))] [] (mkH ρ)) _
      have nx2 : ∀ ρ2, Ag kQc σ ρ2 ∧ CWo W f ρ2 ∧ TD ρ2 (t2G W f n p b q c (t2C W f n p b q c s1)).2 → RnI (ev (d + 9) 254 24 [(0, .ref 0), (1, .int (nI p)), (2, .int (nI b)), (3, .int (nI n)), (4, .int s0.1), (5, .int (t2G W f n p b q c (t2C W f n p b q c s1)).1), (6, .int (nI q)), (7, .int (nI (c + 1)))] [] (mkH ρ2)) _ := nx2
      rw [g_Main_bestWithTwo_24, show sI ρ 325 = nI (wb W) from r2.2.2.1.1, if_neg (nI_ge hc (by omega))]
      by_cases hf : nI (wb W) ≤ (t2C W f n p b q c s1).1
      · have e : t2C W f n p b q (wb W) s1 = t2C W f n p b q c s1 := by
          have := accA_stay (g := t2G W f n p b q) (a := s1) (k := c) (wb W - c) (fun j _ _ => t2_full h.1 hf)
          rw [show c + (wb W - c) = wb W by omega] at this
          exact this
        rw [if_pos hf, nI_1]
        rw [e] at nx
        exact nx ρ ⟨r1, r2, r3⟩
      · rw [if_neg hf, ixn (k := q) (by omega) (by decide), cond_true, cln (n := q) (by omega), show sA ρ 19 q = f (16 + q) from (r2.2.2.2.2.1.2.1 q hq).1, nI_1]
        unfold t2G at nx2
        by_cases c1 : f (16 + q) = nI c
        · rw [if_pos c1] at nx2 ⊢
          exact nx2 ρ ⟨r1, r2, r3⟩
        · obtain ⟨ρ1, i1, i2, i3, i4⟩ := K_try (d := d + 6) r2 hp hb
          have a2 : Ag [10033] ρ1 (uA ρ1 33 q (nI c)) := Ag.A Ag.rf rfl
          obtain ⟨ρ2, y, j1, j2, j3, j4⟩ := K_pass (d := d + 2) (K_also i3 hq hc) (n := n) (xn := nI n) rfl (by omega)
          rw [if_neg c1] at nx2 ⊢
          rw [c_Main_bestWithTwo_66 i1, g_Main_bestWithTwo_69, ixn (k := q) (by omega) (by decide), cond_true, cln (n := q) (by omega), c_Main_bestWithTwo_86 j1, g_Main_bestWithTwo_89, j4, nI_1]
          have g2 : Ag kQc σ ρ2 ∧ CWo W f ρ2 := ⟨((r1.tr (i2.wk rfl)).tr (a2.wk rfl)).tr (j2.wk rfl), (i4.ag a2 rfl).ag j2 rfl⟩
          by_cases c2 : tmF W (itF W (upd (upd f (16 + p) (nI b)) (16 + q) (nI c)) n).1 ≤ (t2C W f n p b q c s1).1
          · rw [if_pos c2] at nx2 ⊢
            exact nx2 ρ2 ⟨g2.1, g2.2, ((r3.ag i2 rfl).ag a2 rfl).ag j2 rfl⟩
          · obtain ⟨ρ3, u1, u2, u3⟩ := T_two (d := d + 6) (σ := ρ2) (x := (nI p).toInt64) (y := (nI b).toInt64)
            obtain ⟨ρ4, v1, v2, v3⟩ := T_add (d := d + 7) (x := (nI q).toInt64) u3 (by show 2 < 9; decide)
            obtain ⟨ρ5, y1, y2, y3⟩ := T_add (d := d + 7) (x := (nI c).toInt64) v3 (by show 3 < 9; decide)
            rw [if_neg c2] at nx2 ⊢
            rw [c_Main_bestWithTwo_110 u1, g_Main_bestWithTwo_113, c_Main_bestWithTwo_120 v1, g_Main_bestWithTwo_123, c_Main_bestWithTwo_130 y1, g_Main_bestWithTwo_133, nI_1]
            exact nx2 ρ5 ⟨((g2.1.tr (u2.wk rfl)).tr (v2.wk rfl)).tr (y2.wk rfl), ((g2.2.ag u2 rfl).ag v2 rfl).ag y2 rfl, y3⟩
    · rintro ρ ⟨r1, r2, r3⟩
      show RnI (ev (d + 9) 254 24 [(0, .ref 0), (1, .int (nI p)), (2, .int (nI b)), (3, .int (nI n)), (4, .int s0.1), (5, .int (t2C W f n p b q (wb W) s1).1), (6, .int (nI q)), (7, .int (nI (wb W)))] [] (mkH ρ)) _
      rw [g_Main_bestWithTwo_24, show sI ρ 325 = nI (wb W) from r2.2.2.1.1, if_pos (nI_le (Nat.le_refl _) (by omega)), nI_1]
      exact nx ρ ⟨r1, r2, r3⟩
  · rintro ρ ⟨p1, p2, p3⟩
    show RnI (ev (d + 9) 254 9 [(0, .ref 0), (1, .int (nI p)), (2, .int (nI b)), (3, .int (nI n)), (4, .int s0.1), (5, .int (t2Q W f n p b (wp W - (p + 1)) s0).1), (6, .int (nI (p + 1 + (wp W - (p + 1)))))] [] (mkH ρ)) _
    rw [g_Main_bestWithTwo_9, show sI ρ 334 = nI (wp W) from p2.2.2.1.2.1, if_pos (nI_le (by omega) (by omega))]
    exact RnI.mk ⟨p1, p2, rfl, p3⟩
def seS (x1 : Int32) (W : Wd) (f : Nat → Int32) : Int32 × Option (List Int64) := if inF x1 1 30 = 0 then (-1, none) else ((o1A W f (Int32.toNatClampNeg x1) (wp W)).1, some (o1A W f (Int32.toNatClampNeg x1) (wp W)).2)
def paS (x1 : Int32) (W : Wd) (f : Nat → Int32) : Int32 × Option (List Int64) := if inF x1 1 30 = 0 then (-1, none) else ((t2A W f (Int32.toNatClampNeg x1) (wp W) (o1A W f (Int32.toNatClampNeg x1) (wp W))).1, some (t2A W f (Int32.toNatClampNeg x1) (wp W) (o1A W f (Int32.toNatClampNeg x1) (wp W))).2)
theorem C_seats (hd : 400 ≤ d) (h : CWo W f σ) : RnI (ev d 251 0 [(0, .ref 0), (1, .int x1)] [] (mkH σ)) (fun τ x => Ag kQc σ τ ∧ x = (seS x1 W f).1 ∧ TDx σ τ (seS x1 W f).2) := by
  obtain ⟨d, rfl⟩ : ∃ e, d = e + 10 := ⟨d - 10, by omega⟩
  unfold seS
  rw [g_Main_seats_0, c_Main_seats_4 K_in, g_Main_seats_7]
  by_cases hi : inF x1 1 30 = 0
  · rw [if_pos hi, if_pos hi, m1]; exact RnI.mk ⟨Ag.rf, rfl, rfl, rfl⟩
  · obtain ⟨n, n1, n2, rfl⟩ := in_n hi (a := 1) (b := 30) rfl rfl (by decide) (by decide)
    obtain ⟨τ, y, k1, k2, k3, k4, k5⟩ := C_one (d := d) h n2
    rw [if_neg hi, if_neg hi, c_Main_seats_12 k1, g_Main_seats_15, cln (n := n) (by omega)]
    exact RnI.mk ⟨k2, k4, k5⟩
theorem C_pairs (hd : 400 ≤ d) (h : CWo W f σ) : RnI (ev d 252 0 [(0, .ref 0), (1, .int x1)] [] (mkH σ)) (fun τ x => Ag kQc σ τ ∧ x = (paS x1 W f).1 ∧ TDx σ τ (paS x1 W f).2) := by
  obtain ⟨d, rfl⟩ : ∃ e, d = e + 10 := ⟨d - 10, by omega⟩
  have w4 := h.1.1
  have w9 := h.1.2.1
  unfold paS
  rw [g_Main_pairs_0, c_Main_pairs_4 K_in, g_Main_pairs_7]
  by_cases hi : inF x1 1 30 = 0
  · rw [if_pos hi, if_pos hi, m1]; exact RnI.mk ⟨Ag.rf, rfl, rfl, rfl⟩
  · obtain ⟨n, n1, n2, rfl⟩ := in_n hi (a := 1) (b := 30) rfl rfl (by decide) (by decide)
    obtain ⟨τ, y, k1, k2, k3, k4, k5⟩ := C_one (d := d) h n2
    rw [if_neg hi, if_neg hi, c_Main_pairs_14 k1, g_Main_pairs_17, cln (n := n) (by omega), k4]
    generalize o1A W f n (wp W) = s0 at k5
    refine lpG (α := Sg) (n := wp W) (P := fun k ρ => Ag kQc σ ρ ∧ CWo W f ρ ∧ TD ρ (t2A W f n k s0).2)
      (f := fun k ρ => ev (d + 10) 252 20 [(0, .ref 0), (1, .int (nI n)), (2, .int (t2A W f n k s0).1), (3, .int (nI k))] [] (mkH ρ)) (Q := fun o => RnI o _) ?_ ?_ (wp W) 0 τ (by omega) ⟨k2, k3, k5⟩
    · rintro p ρ hp ⟨p1, p2, p3⟩ nx
      show RnI (ev (d + 10) 252 20 [(0, .ref 0), (1, .int (nI n)), (2, .int (t2A W f n p s0).1), (3, .int (nI p))] [] (mkH ρ)) _
      rw [g_Main_pairs_20, show sI ρ 334 = nI (wp W) from p2.2.2.1.2.1, if_neg (nI_ge hp (by omega))]
      have nx : ∀ ρ2, Ag kQc σ ρ2 ∧ CWo W f ρ2 ∧ TD ρ2 (t2P W f n p (wb W) (t2A W f n p s0)).2 → RnI (ev (d + 10) 252 20 [(0, .ref 0), (1, .int (nI n)), (2, .int (t2P W f n p (wb W) (t2A W f n p s0)).1), (3, .int (nI (p + 1)))] [] (mkH ρ2)) _ := nx
      generalize t2A W f n p s0 = s1 at p3 nx
      refine lpG (α := Sg) (n := wb W) (P := fun k ρ => Ag kQc σ ρ ∧ CWo W f ρ ∧ TD ρ (t2P W f n p k s1).2)
        (f := fun k ρ => ev (d + 10) 252 34 [(0, .ref 0), (1, .int (nI n)), (2, .int (t2P W f n p k s1).1), (3, .int (nI p)), (4, .int (nI k))] [] (mkH ρ)) (Q := fun o => RnI o _) ?_ ?_ (wb W) 0 ρ (by omega) ⟨p1, p2, p3⟩
      · rintro b ρ hb ⟨r1, r2, r3⟩ nx2
        show RnI (ev (d + 10) 252 34 [(0, .ref 0), (1, .int (nI n)), (2, .int (t2P W f n p b s1).1), (3, .int (nI p)), (4, .int (nI b))] [] (mkH ρ)) _
        have nx2 : ∀ ρ2, Ag kQc σ ρ2 ∧ CWo W f ρ2 ∧ TD ρ2 (t2B W f n p b (t2P W f n p b s1)).2 → RnI (ev (d + 10) 252 34 [(0, .ref 0), (1, .int (nI n)), (2, .int (t2B W f n p b (t2P W f n p b s1)).1), (3, .int (nI p)), (4, .int (nI (b + 1)))] [] (mkH ρ2)) _ := nx2
        rw [g_Main_pairs_34, show sI ρ 325 = nI (wb W) from r2.2.2.1.1, if_neg (nI_ge hb (by omega))]
        by_cases hf : nI (wb W) ≤ (t2P W f n p b s1).1
        · have e : t2P W f n p (wb W) s1 = t2P W f n p b s1 := by
            have := accA_stay (g := t2B W f n p) (a := s1) (k := b) (wb W - b) (fun j _ _ => t2B_full h.1 hf)
            rw [show b + (wb W - b) = wb W by omega] at this
            exact this
          rw [if_pos hf, nI_1]
          rw [e] at nx
          exact nx ρ ⟨r1, r2, r3⟩
        · rw [if_neg hf, ixn (k := p) (by omega) (by decide), cond_true, cln (n := p) (by omega), show sA ρ 19 p = f (16 + p) from (r2.2.2.2.2.1.2.1 p hp).1, nI_1]
          unfold t2B at nx2
          by_cases c1 : f (16 + p) = nI b
          · rw [if_pos c1] at nx2 ⊢
            exact nx2 ρ ⟨r1, r2, r3⟩
          · obtain ⟨ρ2, y2, i1, i2, i3, i4, i5⟩ := C_two (d := d) r2 n2 hp hb r3
            rw [if_neg c1] at nx2 ⊢
            rw [c_Main_pairs_77 i1, g_Main_pairs_80, i4, nI_1]
            exact nx2 ρ2 ⟨r1.tr i2, i3, i5⟩
      · rintro ρ ⟨r1, r2, r3⟩
        show RnI (ev (d + 10) 252 34 [(0, .ref 0), (1, .int (nI n)), (2, .int (t2P W f n p (wb W) s1).1), (3, .int (nI p)), (4, .int (nI (wb W)))] [] (mkH ρ)) _
        rw [g_Main_pairs_34, show sI ρ 325 = nI (wb W) from r2.2.2.1.1, if_pos (nI_le (Nat.le_refl _) (by omega)), nI_1]
        exact nx ρ ⟨r1, r2, r3⟩
    · rintro ρ ⟨p1, p2, p3⟩
      show RnI (ev (d + 10) 252 20 [(0, .ref 0), (1, .int (nI n)), (2, .int (t2A W f n (wp W) s0).1), (3, .int (nI (wp W)))] [] (mkH ρ)) _
      rw [g_Main_pairs_20, show sI ρ 334 = nI (wp W) from p2.2.2.1.2.1, if_pos (nI_le (Nat.le_refl _) (by omega))]
      exact RnI.mk ⟨p1, rfl, p3⟩
/-! the reference -/
def BD (σ : Sg) (l : List Int64) : Prop := l.length ≤ 4 ∧ sI σ 3233 = nI l.length ∧ ∀ i z, l[i]? = some z → (sA σ 67 i).toInt64 = z
theorem BD.ag {τ : Sg} {K : List Nat} {l : List Int64} (h : BD σ l) (g : Ag K σ τ) (hk : dj K [3233, 10067] = true) : BD τ l := by
  have a0 := g.1 3233 (dj_m hk (by decide))
  have a1 := g.2.1 67 (dj_m hk (by decide))
  unfold BD; rw [a0, a1]; exact h
theorem N_by0 (hd : 300 ≤ d) (h : MWo W f σ) {n : Nat} (hn : n ≤ 30) {x2 x4 : Int32} : RnI (ev (d + 6) 91 0 [(0, .ref 50), (1, .int (-1)), (2, .int x2), (3, .int (-1)), (4, .int x4), (5, .int (nI n))] [] (mkH σ)) (fun τ x => Ag (kHm true) σ τ ∧ MWo W f τ ∧ x = tmF W (itF W f n).1) := by
  obtain ⟨τ, k1, k2, k3, k4⟩ := N_layW (d := d + 4) h
  obtain ⟨τ2, j1, j2, j3, j4⟩ := N_hoursW (d := d) hd k4 h.2.1 k3 (n := n) (xn := nI n) rfl (by omega)
  rw [g_Model_thereBy_0, c_Model_thereBy_9 k1, g_Model_thereBy_12, m1, if_pos rfl, if_pos rfl, c_Model_thereBy_50 j1, g_Model_thereBy_53, c_Model_thereBy_58 (N_thereM (v := true) h.1 j4.2.2.1 (it_ok h.1 h.2.1 n) j3), g_Model_thereBy_61]
  exact RnI.mk ⟨(k2.wk rfl).tr j2, j4, rfl⟩
theorem N_by1 (hd : 300 ≤ d) (h : MWo W f σ) {n p b : Nat} (hn : n ≤ 30) (hp : p < wp W) (hb : b < wb W) {x4 : Int32} : RnI (ev (d + 6) 91 0 [(0, .ref 50), (1, .int (nI p)), (2, .int (nI b)), (3, .int (-1)), (4, .int x4), (5, .int (nI n))] [] (mkH σ)) (fun τ x => Ag (kHm true) σ τ ∧ MWo W f τ ∧ x = tmF W (itF W (upd f (16 + p) (nI b)) n).1) := by
  have w9 := h.1.2.1
  have w4 := h.1.1
  obtain ⟨τ, k1, k2, k3, k4⟩ := N_layW (d := d + 4) h
  have a2 : Ag [10062] τ (uA τ 62 (16 + p) (nI b)) := Ag.A Ag.rf rfl
  have ok2 : OK W (upd f (16 + p) (nI b)) := h.2.1.boat h.1 (by omega) (ixn hb (by omega))
  obtain ⟨τ2, j1, j2, j3, j4⟩ := N_hoursW (d := d) hd (k4.ag a2 rfl) ok2 k3.a62 (n := n) (xn := nI n) rfl (by omega)
  rw [g_Model_thereBy_0, c_Model_thereBy_9 k1, g_Model_thereBy_12, m1, if_neg (nI_nm1 (by omega)), if_pos rfl, add16, ixn (k := 16 + p) (by omega) (by decide), cond_true, cln (n := 16 + p) (by omega), c_Model_thereBy_50 j1, g_Model_thereBy_53, c_Model_thereBy_58 (N_thereM (v := true) h.1 j4.2.2.1 (it_ok h.1 ok2 n) j3), g_Model_thereBy_61]
  exact RnI.mk ⟨((k2.wk rfl).tr (a2.wk rfl)).tr j2, j4, rfl⟩
theorem N_by2 (hd : 300 ≤ d) (h : MWo W f σ) {n p b q c : Nat} (hn : n ≤ 30) (hp : p < wp W) (hb : b < wb W) (hq : q < wp W) (hc : c < wb W) : RnI (ev (d + 6) 91 0 [(0, .ref 50), (1, .int (nI p)), (2, .int (nI b)), (3, .int (nI q)), (4, .int (nI c)), (5, .int (nI n))] [] (mkH σ)) (fun τ x => Ag (kHm true) σ τ ∧ MWo W f τ ∧ x = tmF W (itF W (upd (upd f (16 + p) (nI b)) (16 + q) (nI c)) n).1) := by
  have w9 := h.1.2.1
  have w4 := h.1.1
  obtain ⟨τ, k1, k2, k3, k4⟩ := N_layW (d := d + 4) h
  have a2 : Ag [10062] τ (uA (uA τ 62 (16 + p) (nI b)) 62 (16 + q) (nI c)) := Ag.A (Ag.A Ag.rf rfl) rfl
  have ok2 : OK W (upd (upd f (16 + p) (nI b)) (16 + q) (nI c)) := (h.2.1.boat h.1 (by omega) (ixn hb (by omega))).boat h.1 (by omega) (ixn hc (by omega))
  obtain ⟨τ2, j1, j2, j3, j4⟩ := N_hoursW (d := d) hd (k4.ag a2 rfl) ok2 k3.a62.a62 (n := n) (xn := nI n) rfl (by omega)
  rw [g_Model_thereBy_0, c_Model_thereBy_9 k1, g_Model_thereBy_12, m1, if_neg (nI_nm1 (n := p) (by omega)), if_neg (nI_nm1 (n := q) (by omega)), add16, add16, ixn (k := 16 + p) (by omega) (by decide), cond_true, ixn (k := 16 + q) (by omega) (by decide), cond_true, cln (n := 16 + p) (by omega), cln (n := 16 + q) (by omega), c_Model_thereBy_50 j1, g_Model_thereBy_53, c_Model_thereBy_58 (N_thereM (v := true) h.1 j4.2.2.1 (it_ok h.1 ok2 n) j3), g_Model_thereBy_61]
  exact RnI.mk ⟨((k2.wk rfl).tr (a2.wk rfl)).tr j2, j4, rfl⟩
def kB : List Nat := [10059, 40000, 3212, 3213, 3214, 3215, 3220, 10063, 10064, 10065, 10062, 3229, 3230, 10067, 3233]
theorem N_one (hd : 300 ≤ d) (h : MWo W f σ) {n : Nat} (hn : n ≤ 30) : RnI (ev (d + 7) 92 0 [(0, .ref 50), (1, .int (nI n))] [] (mkH σ)) (fun τ x => Ag kB σ τ ∧ MWo W f τ ∧ x = (o1A W f n (wp W)).1 ∧ BD τ (o1A W f n (wp W)).2) := by
  have w4 := h.1.1
  have w9 := h.1.2.1
  obtain ⟨τ, y, k1, k2, k3, k4⟩ := N_by0 hd h hn (x2 := 0) (x4 := 0)
  rw [g_Model_one_0, m1, c_Model_one_6 k1, g_Model_one_9, k4]
  refine lpG (α := Sg) (n := wp W) (P := fun k ρ => Ag kB σ ρ ∧ MWo W f ρ ∧ BD ρ (o1A W f n k).2)
    (f := fun k ρ => ev (d + 7) 92 17 [(0, .ref 50), (1, .int (nI n)), (2, .int (o1A W f n k).1), (3, .int (nI k))] [] (mkH ρ)) (Q := fun o => RnI o _) ?_ ?_ (wp W) 0 (uI τ 3233 0) (by omega) ⟨(k2.wk rfl).tr (Ag.I Ag.rf rfl), k3.nu rfl, by show 0 ≤ 4; decide, rfl, fun i z hz => by cases hz⟩
  · rintro p ρ hp ⟨p1, p2, p3⟩ nx
    show RnI (ev (d + 7) 92 17 [(0, .ref 50), (1, .int (nI n)), (2, .int (o1A W f n p).1), (3, .int (nI p))] [] (mkH ρ)) _
    rw [g_Model_one_17, p2.2.2.1.2.1, if_neg (nI_ge hp (by omega))]
    have nx : ∀ ρ2, Ag kB σ ρ2 ∧ MWo W f ρ2 ∧ BD ρ2 (o1I W f n p (wb W) (o1A W f n p)).2 → RnI (ev (d + 7) 92 17 [(0, .ref 50), (1, .int (nI n)), (2, .int (o1I W f n p (wb W) (o1A W f n p)).1), (3, .int (nI (p + 1)))] [] (mkH ρ2)) _ := nx
    generalize o1A W f n p = s0 at p3 nx
    refine lpG (α := Sg) (n := wb W) (P := fun k ρ => Ag kB σ ρ ∧ MWo W f ρ ∧ BD ρ (o1I W f n p k s0).2)
      (f := fun k ρ => ev (d + 7) 92 28 [(0, .ref 50), (1, .int (nI n)), (2, .int (o1I W f n p k s0).1), (3, .int (nI p)), (4, .int (nI k))] [] (mkH ρ)) (Q := fun o => RnI o _) ?_ ?_ (wb W) 0 ρ (by omega) ⟨p1, p2, p3⟩
    · rintro b ρ hb ⟨r1, r2, r3⟩ nx2
      show RnI (ev (d + 7) 92 28 [(0, .ref 50), (1, .int (nI n)), (2, .int (o1I W f n p b s0).1), (3, .int (nI p)), (4, .int (nI b))] [] (mkH ρ)) _
      have nx2 : ∀ ρ2, Ag kB σ ρ2 ∧ MWo W f ρ2 ∧ BD ρ2 (o1G W f n p b (o1I W f n p b s0)).2 → RnI (ev (d + 7) 92 28 [(0, .ref 50), (1, .int (nI n)), (2, .int (o1G W f n p b (o1I W f n p b s0)).1), (3, .int (nI p)), (4, .int (nI (b + 1)))] [] (mkH ρ2)) _ := nx2
      rw [g_Model_one_28, r2.2.2.1.1, if_neg (nI_ge hb (by omega)), add16, ixn (k := 16 + p) (by omega) (by decide), cond_true, cln (n := 16 + p) (by omega), (r2.2.2.2.1.2.1 p hp).1, nI_1]
      unfold o1G at nx2
      by_cases c1 : f (16 + p) = nI b
      · rw [if_pos c1] at nx2
        rw [if_pos c1.symm]
        exact nx2 ρ ⟨r1, r2, r3⟩
      · obtain ⟨ρ2, y2, i1, i2, i3, i4⟩ := N_by1 (x4 := 0) hd r2 hn hp hb
        rw [if_neg c1] at nx2
        rw [if_neg (fun z => c1 z.symm), m1, c_Model_one_61 i1, g_Model_one_64, i4, nI_1]
        by_cases c2 : tmF W (itF W (upd f (16 + p) (nI b)) n).1 ≤ (o1I W f n p b s0).1
        · rw [if_pos c2] at nx2
          rw [if_neg (Int32.not_lt.mpr c2)]
          exact nx2 ρ2 ⟨r1.tr (i2.wk rfl), i3, r3.ag i2 rfl⟩
        · rw [if_neg c2] at nx2
          rw [if_pos (Int32.not_le.mp c2)]
          have a4 : Ag [10067, 3233] ρ2 (uI (uA (uA ρ2 67 0 (nI p)) 67 1 (nI b)) 3233 2) := Ag.I (Ag.A (Ag.A Ag.rf rfl) rfl) rfl
          refine nx2 _ ⟨(r1.tr (i2.wk rfl)).tr (a4.wk rfl), i3.ag a4 rfl, by show 2 ≤ 4; decide, rfl, fun i z hz => ?_⟩
          match i, hz with
          | 0, hz => cases hz; rfl
          | 1, hz => cases hz; rfl
          | i + 2, hz => cases hz
    · rintro ρ ⟨r1, r2, r3⟩
      show RnI (ev (d + 7) 92 28 [(0, .ref 50), (1, .int (nI n)), (2, .int (o1I W f n p (wb W) s0).1), (3, .int (nI p)), (4, .int (nI (wb W)))] [] (mkH ρ)) _
      rw [g_Model_one_28, r2.2.2.1.1, if_pos (nI_le (Nat.le_refl _) (by omega)), nI_1]
      exact nx ρ ⟨r1, r2, r3⟩
  · rintro ρ ⟨p1, p2, p3⟩
    show RnI (ev (d + 7) 92 17 [(0, .ref 50), (1, .int (nI n)), (2, .int (o1A W f n (wp W)).1), (3, .int (nI (wp W)))] [] (mkH ρ)) _
    rw [g_Model_one_17, p2.2.2.1.2.1, if_pos (nI_le (Nat.le_refl _) (by omega))]
    exact RnI.mk ⟨p1, p2, rfl, p3⟩
theorem N_tellB {l : List Int64} (h : BD σ l) : RnV (ev (d + 2) 93 0 [(0, .ref 50)] [] (mkH σ)) (fun τ => Ag [3209, 20055] σ τ ∧ MD τ l) := by
  rw [g_Model_tellBest_0]
  have hl := h.1
  refine lpG (α := Sg) (n := l.length) (P := fun k ρ => Ag [3209, 20055] σ ρ ∧ MD ρ (l.take k))
    (f := fun k ρ => ev (d + 2) 93 7 [(0, .ref 50), (1, .int (nI k))] [] (mkH ρ)) (Q := fun o => RnV o _) ?_ ?_ l.length 0 (uI σ 3209 0) (by omega) ⟨Ag.I Ag.rf rfl, MD.nil⟩
  · rintro k ρ hk ⟨p1, p2⟩ nx
    show RnV (ev (d + 2) 93 7 [(0, .ref 50), (1, .int (nI k))] [] (mkH ρ)) _
    have b1 := h.ag p1 rfl
    have hz : l[k]? = some l[k] := List.getElem?_eq_getElem hk
    obtain ⟨ρ2, t1, t2, t3⟩ := N_tell (d := d) (x := l[k]) p2 (by rw [List.length_take]; omega)
    rw [g_Model_tellBest_7, b1.2.1, if_neg (nI_ge hk (by omega)), ixn (k := k) (by omega) (by decide), cond_true, cln (n := k) (by omega), b1.2.2 k _ hz, c_Model_tellBest_23 t1, g_Model_tellBest_26, nI_1]
    refine nx ρ2 ⟨p1.tr t2, ?_⟩
    rw [List.take_succ, hz]
    exact t3
  · rintro ρ ⟨p1, p2⟩
    show RnV (ev (d + 2) 93 7 [(0, .ref 50), (1, .int (nI l.length))] [] (mkH ρ)) _
    have b1 := h.ag p1 rfl
    rw [g_Model_tellBest_7, b1.2.1, if_pos (nI_le (Nat.le_refl _) (by omega))]
    rw [List.take_length] at p2
    exact RnV.mk ⟨p1, p2⟩
theorem M_seats (hd : 400 ≤ d) (h : MWo W f σ) : RnI (ev d 94 0 [(0, .ref 50), (1, .int x1)] [] (mkH σ)) (fun τ x => Ag kQm σ τ ∧ x = (seS x1 W f).1 ∧ MDx σ τ (seS x1 W f).2) := by
  obtain ⟨d, rfl⟩ : ∃ e, d = e + 10 := ⟨d - 10, by omega⟩
  unfold seS
  have h1 : MWo W f (uI σ 3210 0) := h.nu rfl
  have a0 : Ag kQm σ (uI σ 3210 0) := Ag.I Ag.rf rfl
  rw [g_Model_seats_0, c_Model_seats_6 N_span, g_Model_seats_9]
  by_cases hi : inF x1 1 30 = 0
  · rw [if_pos hi, if_pos hi, m1]; exact RnI.mk ⟨a0, rfl, rfl, rfl⟩
  · obtain ⟨n, n1, n2, rfl⟩ := in_n hi (a := 1) (b := 30) rfl rfl (by decide) (by decide)
    obtain ⟨τ, y, k1, k2, k3, k4, k5⟩ := N_one (d := d + 2) (by omega) h1 n2
    obtain ⟨τ2, t1, t2, t3⟩ := N_tellB (d := d + 7) k5
    rw [if_neg hi, if_neg hi, c_Model_seats_16 k1, g_Model_seats_19, c_Model_seats_21 t1, g_Model_seats_24, cln (n := n) (by omega)]
    exact RnI.mk ⟨(a0.tr (k2.wk rfl)).tr (t2.wk rfl), k4, t3⟩
theorem M_pairs (hd : 400 ≤ d) (h : MWo W f σ) : RnI (ev d 95 0 [(0, .ref 50), (1, .int x1)] [] (mkH σ)) (fun τ x => Ag kQm σ τ ∧ x = (paS x1 W f).1 ∧ MDx σ τ (paS x1 W f).2) := by
  obtain ⟨d, rfl⟩ : ∃ e, d = e + 10 := ⟨d - 10, by omega⟩
  have w4 := h.1.1
  have w9 := h.1.2.1
  unfold paS
  have h1 : MWo W f (uI σ 3210 0) := h.nu rfl
  have a0 : Ag kQm σ (uI σ 3210 0) := Ag.I Ag.rf rfl
  rw [g_Model_pairs_0, c_Model_pairs_6 N_span, g_Model_pairs_9]
  by_cases hi : inF x1 1 30 = 0
  · rw [if_pos hi, if_pos hi, m1]; exact RnI.mk ⟨a0, rfl, rfl, rfl⟩
  · obtain ⟨n, n1, n2, rfl⟩ := in_n hi (a := 1) (b := 30) rfl rfl (by decide) (by decide)
    obtain ⟨τ, y, k1, k2, k3, k4, k5⟩ := N_one (d := d + 2) (by omega) h1 n2
    rw [if_neg hi, if_neg hi, c_Model_pairs_16 k1, g_Model_pairs_19, cln (n := n) (by omega), k4]
    generalize o1A W f n (wp W) = s0 at k5
    refine lpG (α := Sg) (n := wp W) (P := fun k ρ => Ag kQm σ ρ ∧ MWo W f ρ ∧ BD ρ (t2A W f n k s0).2)
      (f := fun k ρ => ev (d + 10) 95 22 [(0, .ref 50), (1, .int (nI n)), (2, .int (t2A W f n k s0).1), (3, .int (nI k))] [] (mkH ρ)) (Q := fun o => RnI o _) ?_ ?_ (wp W) 0 τ (by omega) ⟨a0.tr (k2.wk rfl), k3, k5⟩
    · rintro p ρ hp ⟨p1, p2, p3⟩ nx
      show RnI (ev (d + 10) 95 22 [(0, .ref 50), (1, .int (nI n)), (2, .int (t2A W f n p s0).1), (3, .int (nI p))] [] (mkH ρ)) _
      rw [g_Model_pairs_22, p2.2.2.1.2.1, if_neg (nI_ge hp (by omega))]
      have nx : ∀ ρ2, Ag kQm σ ρ2 ∧ MWo W f ρ2 ∧ BD ρ2 (t2P W f n p (wb W) (t2A W f n p s0)).2 → RnI (ev (d + 10) 95 22 [(0, .ref 50), (1, .int (nI n)), (2, .int (t2P W f n p (wb W) (t2A W f n p s0)).1), (3, .int (nI (p + 1)))] [] (mkH ρ2)) _ := nx
      generalize t2A W f n p s0 = s1 at p3 nx
      refine lpG (α := Sg) (n := wb W) (P := fun k ρ => Ag kQm σ ρ ∧ MWo W f ρ ∧ BD ρ (t2P W f n p k s1).2)
        (f := fun k ρ => ev (d + 10) 95 33 [(0, .ref 50), (1, .int (nI n)), (2, .int (t2P W f n p k s1).1), (3, .int (nI p)), (4, .int (nI k))] [] (mkH ρ)) (Q := fun o => RnI o _) ?_ ?_ (wb W) 0 ρ (by omega) ⟨p1, p2, p3⟩
      · rintro b ρ hb ⟨r1, r2, r3⟩ nx2
        show RnI (ev (d + 10) 95 33 [(0, .ref 50), (1, .int (nI n)), (2, .int (t2P W f n p b s1).1), (3, .int (nI p)), (4, .int (nI b))] [] (mkH ρ)) _
        have nx2 : ∀ ρ2, Ag kQm σ ρ2 ∧ MWo W f ρ2 ∧ BD ρ2 (t2B W f n p b (t2P W f n p b s1)).2 → RnI (ev (d + 10) 95 33 [(0, .ref 50), (1, .int (nI n)), (2, .int (t2B W f n p b (t2P W f n p b s1)).1), (3, .int (nI p)), (4, .int (nI (b + 1)))] [] (mkH ρ2)) _ := nx2
        rw [g_Model_pairs_33, r2.2.2.1.1, if_neg (nI_ge hb (by omega)), nI_1]
        generalize t2P W f n p b s1 = s2 at r3 nx2
        unfold t2B at nx2
        by_cases c1 : f (16 + p) = nI b
        · rw [if_pos c1] at nx2
          rw [g_Model_pairs_47, r2.2.2.1.2.1]
          by_cases hpp : p + 1 < wp W
          · rw [if_neg (nI_ge hpp (by omega)), add16, ixn (k := 16 + p) (by omega) (by decide), cond_true, cln (n := 16 + p) (by omega), (r2.2.2.2.1.2.1 p hp).1, if_pos c1.symm, nI_1]
            exact nx2 ρ ⟨r1, r2, r3⟩
          · rw [if_pos (nI_le (by omega) (by omega)), nI_1]
            exact nx2 ρ ⟨r1, r2, r3⟩
        · rw [if_neg c1] at nx2
          refine lpG (α := Sg) (n := wp W - (p + 1)) (P := fun k ρ => Ag kQm σ ρ ∧ MWo W f ρ ∧ BD ρ (t2Q W f n p b k s2).2)
            (f := fun k ρ => ev (d + 10) 95 47 [(0, .ref 50), (1, .int (nI n)), (2, .int (t2Q W f n p b k s2).1), (3, .int (nI p)), (4, .int (nI b)), (5, .int (nI (p + 1 + k)))] [] (mkH ρ)) (Q := fun o => RnI o _) ?_ ?_ (wp W - (p + 1)) 0 ρ (by omega) ⟨r1, r2, r3⟩
          · rintro j ρ hj ⟨u1, u2, u3⟩ nx3
            show RnI (ev (d + 10) 95 47 [(0, .ref 50), (1, .int (nI n)), (2, .int (t2Q W f n p b j s2).1), (3, .int (nI p)), (4, .int (nI b)), (5, .int (nI (p + 1 + j)))] [] (mkH ρ)) _
            have hq : p + 1 + j < wp W := by omega
            have nx3 : ∀ ρ2, Ag kQm σ ρ2 ∧ MWo W f ρ2 ∧ BD ρ2 (t2C W f n p b (p + 1 + j) (wb W) (t2Q W f n p b j s2)).2 → RnI (ev (d + 10) 95 47 [(0, .ref 50), (1, .int (nI n)), (2, .int (t2C W f n p b (p + 1 + j) (wb W) (t2Q W f n p b j s2)).1), (3, .int (nI p)), (4, .int (nI b)), (5, .int (nI (p + 1 + (j + 1))))] [] (mkH ρ2)) _ := nx3
            rw [show p + 1 + (j + 1) = p + 1 + j + 1 by omega] at nx3
            rw [g_Model_pairs_47, u2.2.2.1.2.1, if_neg (nI_ge hq (by omega)), add16, ixn (k := 16 + p) (by omega) (by decide), cond_true, cln (n := 16 + p) (by omega), (u2.2.2.2.1.2.1 p hp).1, if_neg (fun z => c1 z.symm)]
            generalize t2Q W f n p b j s2 = s3 at u3 nx3
            generalize p + 1 + j = q at hq nx3
            refine lpG (α := Sg) (n := wb W) (P := fun k ρ => Ag kQm σ ρ ∧ MWo W f ρ ∧ BD ρ (t2C W f n p b q k s3).2)
              (f := fun k ρ => ev (d + 10) 95 73 [(0, .ref 50), (1, .int (nI n)), (2, .int (t2C W f n p b q k s3).1), (3, .int (nI p)), (4, .int (nI b)), (5, .int (nI q)), (6, .int (nI k))] [] (mkH ρ)) (Q := fun o => RnI o _) ?_ ?_ (wb W) 0 ρ (by omega) ⟨u1, u2, u3⟩
            · rintro c ρ hc ⟨v1, v2, v3⟩ nx4
              show RnI (ev (d + 10) 95 73 [(0, .ref 50), (1, .int (nI n)), (2, .int (t2C W f n p b q c s3).1), (3, .int (nI p)), (4, .int (nI b)), (5, .int (nI q)), (6, .int (nI c))] [] (mkH ρ)) _
              have nx4 : ∀ ρ2, Ag kQm σ ρ2 ∧ MWo W f ρ2 ∧ BD ρ2 (t2G W f n p b q c (t2C W f n p b q c s3)).2 → RnI (ev (d + 10) 95 73 [(0, .ref 50), (1, .int (nI n)), (2, .int (t2G W f n p b q c (t2C W f n p b q c s3)).1), (3, .int (nI p)), (4, .int (nI b)), (5, .int (nI q)), (6, .int (nI (c + 1)))] [] (mkH ρ2)) _ := nx4
              rw [g_Model_pairs_73, v2.2.2.1.1, if_neg (nI_ge hc (by omega)), add16, ixn (k := 16 + q) (by omega) (by decide), cond_true, cln (n := 16 + q) (by omega), (v2.2.2.2.1.2.1 q hq).1, nI_1]
              unfold t2G at nx4
              by_cases c2 : f (16 + q) = nI c
              · rw [if_pos c2] at nx4
                rw [if_pos c2.symm]
                exact nx4 ρ ⟨v1, v2, v3⟩
              · obtain ⟨ρ2, y2, i1, i2, i3, i4⟩ := N_by2 (d := d + 3) (by omega) v2 n2 hp hb hq hc
                rw [if_neg c2] at nx4
                rw [if_neg (fun z => c2 z.symm), c_Model_pairs_109 i1, g_Model_pairs_112, i4, nI_1]
                by_cases c3 : tmF W (itF W (upd (upd f (16 + p) (nI b)) (16 + q) (nI c)) n).1 ≤ (t2C W f n p b q c s3).1
                · rw [if_pos c3] at nx4
                  rw [if_neg (Int32.not_lt.mpr c3)]
                  exact nx4 ρ2 ⟨v1.tr (i2.wk rfl), i3, v3.ag i2 rfl⟩
                · rw [if_neg c3] at nx4
                  rw [if_pos (Int32.not_le.mp c3)]
                  have a4 : Ag [10067, 3233] ρ2 (uI (uA (uA (uA (uA ρ2 67 0 (nI p)) 67 1 (nI b)) 67 2 (nI q)) 67 3 (nI c)) 3233 4) := Ag.I (Ag.A (Ag.A (Ag.A (Ag.A Ag.rf rfl) rfl) rfl) rfl) rfl
                  refine nx4 _ ⟨(v1.tr (i2.wk rfl)).tr (a4.wk rfl), i3.ag a4 rfl, by show 4 ≤ 4; decide, rfl, fun i z hz => ?_⟩
                  match i, hz with
                  | 0, hz => cases hz; rfl
                  | 1, hz => cases hz; rfl
                  | 2, hz => cases hz; rfl
                  | 3, hz => cases hz; rfl
                  | i + 4, hz => cases hz
            · rintro ρ ⟨v1, v2, v3⟩
              show RnI (ev (d + 10) 95 73 [(0, .ref 50), (1, .int (nI n)), (2, .int (t2C W f n p b q (wb W) s3).1), (3, .int (nI p)), (4, .int (nI b)), (5, .int (nI q)), (6, .int (nI (wb W)))] [] (mkH ρ)) _
              rw [g_Model_pairs_73, v2.2.2.1.1, if_pos (nI_le (Nat.le_refl _) (by omega)), nI_1]
              exact nx3 ρ ⟨v1, v2, v3⟩
          · rintro ρ ⟨u1, u2, u3⟩
            show RnI (ev (d + 10) 95 47 [(0, .ref 50), (1, .int (nI n)), (2, .int (t2Q W f n p b (wp W - (p + 1)) s2).1), (3, .int (nI p)), (4, .int (nI b)), (5, .int (nI (p + 1 + (wp W - (p + 1)))))] [] (mkH ρ)) _
            rw [g_Model_pairs_47, u2.2.2.1.2.1, if_pos (nI_le (by omega) (by omega)), nI_1]
            exact nx2 ρ ⟨u1, u2, u3⟩
      · rintro ρ ⟨r1, r2, r3⟩
        show RnI (ev (d + 10) 95 33 [(0, .ref 50), (1, .int (nI n)), (2, .int (t2P W f n p (wb W) s1).1), (3, .int (nI p)), (4, .int (nI (wb W)))] [] (mkH ρ)) _
        rw [g_Model_pairs_33, r2.2.2.1.1, if_pos (nI_le (Nat.le_refl _) (by omega)), nI_1]
        exact nx ρ ⟨r1, r2, r3⟩
    · rintro ρ ⟨p1, p2, p3⟩
      show RnI (ev (d + 10) 95 22 [(0, .ref 50), (1, .int (nI n)), (2, .int (t2A W f n (wp W) s0).1), (3, .int (nI (wp W)))] [] (mkH ρ)) _
      obtain ⟨τ2, t1, t2, t3⟩ := N_tellB (d := d + 7) p3
      rw [g_Model_pairs_22, p2.2.2.1.2.1, if_pos (nI_le (Nat.le_refl _) (by omega)), c_Model_pairs_187 t1, g_Model_pairs_190]
      exact RnI.mk ⟨p1.tr (t2.wk rfl), rfl, t3⟩
end Q8
theorem op_seats : Op_seats 400 INV := fun d hd k σ a1 _ h => q_op (seS a1) (fun W f hW _ => by
  unfold seS; split
  · exact True.intro
  · show (o1A W f (Int32.toNatClampNeg a1) (wp W)).2.length ≤ 9
    have := o1_len (W := W) (f := f) (n := Int32.toNatClampNeg a1) (k := wp W)
    omega) (fun d σ W f hd h => C_seats hd h) (fun d σ W f hd h => M_seats hd h) hd h
theorem op_pairs : Op_pairs 400 INV := fun d hd k σ a1 _ h => q_op (paS a1) (fun W f hW _ => by
  unfold paS; split
  · exact True.intro
  · show (t2A W f (Int32.toNatClampNeg a1) (wp W) (o1A W f (Int32.toNatClampNeg a1) (wp W))).2.length ≤ 9
    have h1 := o1_len (W := W) (f := f) (n := Int32.toNatClampNeg a1) (k := wp W)
    have := t2_len (W := W) (f := f) (n := Int32.toNatClampNeg a1) (k := wp W) (s := o1A W f (Int32.toNatClampNeg a1) (wp W)) (by omega)
    omega) (fun d σ W f hd h => C_pairs hd h) (fun d σ W f hd h => M_pairs hd h) hd h
