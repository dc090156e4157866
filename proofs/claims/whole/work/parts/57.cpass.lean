/-! An hour and more of them, by the class -/
theorem or_z {x : Int32} (h : z1 x) : z1 (x ||| 0) ∧ z1 (x ||| 1) ∧ (x ||| 0 = 0 → x = 0) ∧ ¬ x ||| 1 = 0 := by
  rcases h with rfl | rfl
  · exact ⟨Or.inl (by decide), Or.inr (by decide), fun _ => rfl, by decide⟩
  · exact ⟨Or.inr (by decide), Or.inr (by decide), fun z => absurd z (by decide), by decide⟩
theorem nar_b {x : Int32} (h : z1 x) : vp_nar .boolean x = x := by
  rcases h with rfl | rfl <;> decide
section CPASS
variable {d : Nat} {σ : Sg} {w : Bool} {W : Wd} {f g : Nat → Int32}
theorem F_breathe (hW : WO W) (ho : OK W f) (hog : OK W g) (hgf : ∀ i, 16 ≤ i → g i = f i) (hf : FR W w σ g) (hc : CW W w σ) (hcc : CC W σ) (hm : ∀ p, p < wp W → sA σ (fa w 12) p = puF W f p) :
    RnI (ev (d + 3) 162 0 [(0, .ref (fo w))] [] (mkH σ)) (fun τ x => Ag [10000 + fa w 11] σ τ ∧ z1 x ∧ (∀ p, p < wp W → sA τ (fa w 11) p = mnF (wl W p) (g (34 + p) + moF W f g p)) ∧ (x = 0 → ∀ p, p < wp W → mnF (wl W p) (g (34 + p) + moF W f g p) = g (34 + p))) := by
  have w4 := hW.1
  have w9 := hW.2.1
  rw [g_Fleet_breathe_0]
  refine lpG (α := Sg × Int32) (n := wp W) (P := fun k a => Ag [10000 + fa w 11] σ a.1 ∧ z1 a.2 ∧ (∀ p, p < wp W → sA a.1 (fa w 11) p = if p < k then mnF (wl W p) (g (34 + p) + moF W f g p) else g (34 + p)) ∧ (a.2 = 0 → ∀ p, p < k → mnF (wl W p) (g (34 + p) + moF W f g p) = g (34 + p)))
    (f := fun k a => ev (d + 3) 162 4 [(0, .ref (fo w)), (1, .int a.2), (2, .int (nI k))] [] (mkH a.1)) (Q := fun o => RnI o _) ?_ ?_ (wp W) 0 (σ, 0) (by omega) ⟨Ag.rf, Or.inl rfl, fun p hp => by rw [if_neg (Nat.not_lt_zero p)]; exact (hf.2.1 p hp).2.2, fun _ p hp => absurd hp (Nat.not_lt_zero p)⟩
  · rintro k ⟨ρ, y⟩ hk ⟨p1, p2, p3, p4⟩ nx
    have p1 : Ag [10000 + fa w 11] σ ρ := p1
    have p2 : z1 y := p2
    show RnI (ev (d + 3) 162 4 [(0, .ref (fo w)), (1, .int y), (2, .int (nI k))] [] (mkH ρ)) _
    have kl : k < 2147483648 := by omega
    have hc' := hc.ag p1 (by cases w <;> rfl)
    have hcc' := hcc.ag p1 (by cases w <;> rfl)
    have q0 : sA ρ (fa w 0) = sA σ (fa w 0) := p1.2.1 _ (by cases w <;> rfl)
    have q9 : sA ρ (fa w 9) k = f (16 + k) := by rw [p1.2.1 _ (by cases w <;> rfl), (hf.2.1 k hk).1, hgf _ (by omega)]
    have q10 : sA ρ (fa w 10) k = f (25 + k) := by rw [p1.2.1 _ (by cases w <;> rfl), (hf.2.1 k hk).2.1, hgf _ (by omega)]
    have q11 : sA ρ (fa w 11) k = g (34 + k) := by
      have := p3 k hk
      rwa [if_neg (Nat.lt_irrefl k)] at this
    have q12 : sA ρ (fa w 12) k = puF W f k := by rw [p1.2.1 _ (by cases w <;> rfl)]; exact hm k hk
    have hx := (ho.2 k hk).1
    have hlt := ix_lt hx
    have fin : ∀ v u, v = mnF (wl W k) (g (34 + k) + moF W f g k) → z1 u → (u = 0 → y = 0 ∧ v = g (34 + k)) → RnI (ev (d + 3) 162 4 [(0, .ref (fo w)), (1, .int u), (2, .int (nI (k + 1)))] [] (mkH (uA ρ (fa w 11) k v))) (fun τ x => Ag [10000 + fa w 11] σ τ ∧ z1 x ∧ (∀ p, p < wp W → sA τ (fa w 11) p = mnF (wl W p) (g (34 + p) + moF W f g p)) ∧ (x = 0 → ∀ p, p < wp W → mnF (wl W p) (g (34 + p) + moF W f g p) = g (34 + p))) := by
      intro v u hv hu h0
      refine nx (uA ρ (fa w 11) k v, u) ⟨Ag.A p1 (by cases w <;> rfl), hu, fun p hp => ?_, fun z p hp => ?_⟩
      · show sA (uA ρ (fa w 11) k v) (fa w 11) p = _
        rw [A_at]
        by_cases e : p = k
        · subst e; rw [if_pos rfl, if_pos (show _ < _ + 1 by omega), hv]
        · rw [if_neg e, p3 p hp]
          by_cases e2 : p < k
          · rw [if_pos e2, if_pos (by omega)]
          · rw [if_neg e2, if_neg (by omega)]
      · by_cases e : p = k
        · subst e; rw [← hv]; exact (h0 z).2
        · exact p4 (h0 z).1 p (by omega)
    have fin2 : ∀ v, v = mnF (wl W k) (g (34 + k) + moF W f g k) → RnI (if v = g (34 + k) then ev (d + 3) 162 4 [(0, .ref (fo w)), (1, .int (y ||| 0)), (2, .int (nI (k + 1)))] [] (mkH (uA ρ (fa w 11) k v)) else ev (d + 3) 162 4 [(0, .ref (fo w)), (1, .int (y ||| 1)), (2, .int (nI (k + 1)))] [] (mkH (uA ρ (fa w 11) k v))) (fun τ x => Ag [10000 + fa w 11] σ τ ∧ z1 x ∧ (∀ p, p < wp W → sA τ (fa w 11) p = mnF (wl W p) (g (34 + p) + moF W f g p)) ∧ (x = 0 → ∀ p, p < wp W → mnF (wl W p) (g (34 + p) + moF W f g p) = g (34 + p))) := by
      intro v hv
      obtain ⟨o1, o2, o3, o4⟩ := or_z p2
      by_cases e : v = g (34 + k)
      · rw [if_pos e]; exact fin v _ hv o1 (fun z => ⟨o3 z, e⟩)
      · rw [if_neg e]; exact fin v _ hv o2 (fun z => absurd z o4)
    rw [g_Fleet_breathe_4, hc'.2.1, if_neg (nI_ge hk (by omega)), ixn (by omega) (by decide)]
    simp only [cond_true, cln kl, q9, q10, q11, hc'.2.2 k hk, ix_mono hx w4 (by decide), nI_1]
    by_cases aw : f (25 + k) = 0
    · rw [if_pos aw]
      exact fin2 _ (by unfold moF; rw [if_pos aw]; rfl)
    · rw [if_neg aw, q0, (hf.1 _ hlt).1, c_Fleet_breathe_46 (C_bend hcc' hW), g_Fleet_breathe_49, (hog.1 _ hlt).1, cond_true, ixn (by omega) (by decide)]
      simp only [cond_true, cln kl, q11, q12, hc'.2.2 k hk, nI_1]
      by_cases e : wK W (Int32.toNatClampNeg (g (Int32.toNatClampNeg (f (16 + k))))) = -1
      · rw [if_pos e, if_neg (by decide)]
        refine fin2 _ ?_
        have : g (34 + k) + 1 + (1 - puF W f k) = g (34 + k) + moF W f g k := by
          unfold moF
          rw [if_neg aw, if_pos e, Int32.add_assoc, add_sub3 1 1, show (1 : Int32) + 1 = 2 from by decide]
        rw [this]; rfl
      · rw [if_neg e, if_pos rfl]
        refine fin2 _ ?_
        have : g (34 + k) + 1 + (0 - puF W f k) = g (34 + k) + moF W f g k := by
          unfold moF
          rw [if_neg aw, if_neg e, Int32.add_assoc, add_sub3 1 0, show (1 : Int32) + 0 = 1 from by decide]
        rw [this]; rfl
  · rintro ⟨ρ, y⟩ ⟨p1, p2, p3, p4⟩
    have p1 : Ag [10000 + fa w 11] σ ρ := p1
    have p2 : z1 y := p2
    show RnI (ev (d + 3) 162 4 [(0, .ref (fo w)), (1, .int y), (2, .int (nI (wp W)))] [] (mkH ρ)) _
    have hc' := hc.ag p1 (by cases w <;> rfl)
    rw [g_Fleet_breathe_4, hc'.2.1, if_pos (nI_le (Nat.le_refl _) (by omega)), if_pos (z1_or p2)]
    exact RnI.mk ⟨p1, p2, fun p hp => by rw [p3 p hp, if_pos hp], p4⟩
/-- all that an hour of the class writes -/
def kH (w : Bool) : List Nat := [10000 + fa w 0, 10000 + fa w 3, 10000 + fa w 4, 10000 + fa w 5, 10000 + fa w 6, 10000 + fa w 7, 10000 + fa w 11, 10000 + fa w 12, fi w 2, fi w 3, fi w 4, 10008, 10009, 10048, 10049]
theorem F_goA (hW : WO W) (ho : OK W f) (hf : FR W w σ f) (hc : CW W w σ) (hcc : CC W σ) (hm : MS W f w σ) {x1 : Int32} {Q : Sg → Int32 → Prop}
    (next : ∀ τ, Ag (kG w) σ τ → FR W w τ (goH W f).1 → sI τ (fi w 3) = sI σ (fi w 3) + (goH W f).2.1 → sI τ (fi w 4) = sI σ (fi w 4) + (goH W f).2.2 → RnI (ev (d + 5) 159 43 [(0, .ref (fo w)), (1, .int x1), (2, .int 0), (3, .int 0)] [] (mkH τ)) Q) :
    RnI (ev (d + 5) 159 13 [(0, .ref (fo w)), (1, .int x1), (2, .int 0), (3, .int 0)] [] (mkH σ)) Q := by
  have w4 := hW.1
  refine lpG (α := Sg) (n := wb W) (P := fun k ρ => Ag (kG w) σ ρ ∧ FR W w ρ (goA W (wiF W f) (hoF W f) k (f, 0, 0)).1 ∧ sI ρ (fi w 3) = sI σ (fi w 3) + (goA W (wiF W f) (hoF W f) k (f, 0, 0)).2.1 ∧ sI ρ (fi w 4) = sI σ (fi w 4) + (goA W (wiF W f) (hoF W f) k (f, 0, 0)).2.2)
    (f := fun k ρ => ev (d + 5) 159 13 [(0, .ref (fo w)), (1, .int x1), (2, .int 0), (3, .int (nI k))] [] (mkH ρ)) (Q := fun o => RnI o Q) ?_ ?_ (wb W) 0 σ (by omega) ⟨Ag.rf, hf, (Int32.add_zero _).symm, (Int32.add_zero _).symm⟩
  · rintro k ρ hk ⟨p1, p2, p3, p4⟩ nx
    show RnI (ev (d + 5) 159 13 [(0, .ref (fo w)), (1, .int x1), (2, .int 0), (3, .int (nI k))] [] (mkH ρ)) Q
    have hg := (goA_gd (f := f) (wd := wiF W f) (hd := hoF W f) hW k (f, 0, 0) (by omega) ⟨ho, fun _ _ => rfl⟩).1
    have hc' := hc.ag p1 (by cases w <;> rfl)
    have hcc' := hcc.ag p1 (by cases w <;> rfl)
    have hm' := hm.ag p1 (by cases w <;> rfl)
    rw [g_Fleet_passOne_13, hc'.1, if_neg (nI_ge hk (by omega)), ixn (by omega) (by decide), cond_true, cln (by omega), (p2.1 k hk).2.2.2]
    have eg : goA W (wiF W f) (hoF W f) (k + 1) (f, 0, 0) = goF W (wiF W f) (hoF W f) k (goA W (wiF W f) (hoF W f) k (f, 0, 0)) := rfl
    unfold goF at eg
    by_cases ht : (goA W (wiF W f) (hoF W f) k (f, 0, 0)).1 (12 + k) = 0
    · rw [if_pos ht] at eg
      obtain ⟨τ, h1, h2, h3, h4, h5⟩ := F_go (d := d) hW ho hg p2 hc' hcc' hm' hk p3 p4
      rw [if_pos ht, c_Fleet_passOne_32 h1, g_Fleet_passOne_35, nI_1]
      refine nx τ ⟨p1.tr h2, ?_, ?_, ?_⟩
      · rw [eg]; exact h3
      · rw [eg]; exact h4
      · rw [eg]; exact h5
    · rw [if_neg ht] at eg
      rw [if_neg ht, nI_1]
      refine nx ρ ⟨p1, ?_, ?_, ?_⟩
      · rw [eg]; exact p2
      · rw [eg]; exact p3
      · rw [eg]; exact p4
  · rintro ρ ⟨p1, p2, p3, p4⟩
    show RnI (ev (d + 5) 159 13 [(0, .ref (fo w)), (1, .int x1), (2, .int 0), (3, .int (nI (wb W)))] [] (mkH ρ)) Q
    have hc' := hc.ag p1 (by cases w <;> rfl)
    rw [g_Fleet_passOne_13, hc'.1, if_pos (nI_le (Nat.le_refl _) (by omega))]
    exact next ρ p1 p2 p3 p4
/-- who arrives -/
def arG (W : Wd) (g : Nat → Int32) (i : Nat) : Int32 := if 12 ≤ i ∧ i < 12 + wb W then (bif aeF W g (i - 12) then 1 else g i) else g i
theorem arG_t {b : Nat} (hb : b < wb W) : arG W g (12 + b) = bif aeF W g b then 1 else g (12 + b) := by
  unfold arG; rw [if_pos (by omega), Nat.add_sub_cancel_left]
theorem arG_o {i : Nat} (h : ¬ (12 ≤ i ∧ i < 12 + wb W)) : arG W g i = g i := if_neg h
theorem arG_ok (hW : WO W) (hg : OK W g) : OK W (arG W g) := by
  have w4 := hW.1
  refine ⟨fun b hb => ?_, fun p hp => ?_⟩
  · obtain ⟨a1, a2, a3, a4⟩ := hg.1 b hb
    rw [arG_o (by omega), arG_o (by omega), arG_o (by omega), arG_t hb]
    refine ⟨a1, a2, a3, ?_⟩
    cases aeF W g b
    · exact a4
    · exact Or.inr rfl
  · rw [arG_o (by omega), arG_o (by omega), arG_o (by omega)]; exact hg.2 p hp
theorem arG_mo (hW : WO W) (ho : OK W f) {p : Nat} (hp : p < wp W) : moF W f (arG W g) p = moF W f g p := by
  have w4 := hW.1
  have := ix_lt (ho.2 p hp).1
  unfold moF
  rw [arG_o (i := Int32.toNatClampNeg (f (16 + p))) (by omega)]
theorem F_arr (hW : WO W) (hg : OK W g) (hf : FR W w σ g) (hc : CW W w σ) (hcc : CC W σ) {x1 : Int32} {Q : Sg → Int32 → Prop}
    (next : ∀ τ x, Ag [10000 + fa w 3] σ τ → FR W w τ (arG W g) → z1 x → (x = 0 → ∀ b, b < wb W → aeF W g b = true → g (12 + b) = 1) → RnI (ev (d + 5) 159 113 [(0, .ref (fo w)), (1, .int x1), (2, .int x), (3, .int (nI (wb W)))] [.ref (fo w), .int x] (mkH τ)) Q) :
    RnI (ev (d + 5) 159 43 [(0, .ref (fo w)), (1, .int x1), (2, .int 0), (3, .int 0)] [] (mkH σ)) Q := by
  have w4 := hW.1
  have w30 := hW.2.2.2.1
  refine lpG (α := Sg × Int32) (n := wb W) (P := fun k a => Ag [10000 + fa w 3] σ a.1 ∧ z1 a.2 ∧ (∀ b, b < wb W → sA a.1 (fa w 3) b = if b < k then (bif aeF W g b then 1 else g (12 + b)) else g (12 + b)) ∧ (a.2 = 0 → ∀ b, b < k → aeF W g b = true → g (12 + b) = 1))
    (f := fun k a => ev (d + 5) 159 43 [(0, .ref (fo w)), (1, .int x1), (2, .int a.2), (3, .int (nI k))] [] (mkH a.1)) (Q := fun o => RnI o Q) ?_ ?_ (wb W) 0 (σ, 0) (by omega) ⟨Ag.rf, Or.inl rfl, fun b hb => by rw [if_neg (Nat.not_lt_zero b)]; exact (hf.1 b hb).2.2.2, fun _ b hb => absurd hb (Nat.not_lt_zero b)⟩
  · rintro k ⟨ρ, y⟩ hk ⟨p1, p2, p3, p4⟩ nx
    have p1 : Ag [10000 + fa w 3] σ ρ := p1
    have p2 : z1 y := p2
    show RnI (ev (d + 5) 159 43 [(0, .ref (fo w)), (1, .int x1), (2, .int y), (3, .int (nI k))] [] (mkH ρ)) Q
    have hc' := hc.ag p1 (by cases w <;> rfl)
    have hcc' := hcc.ag p1 (by cases w <;> rfl)
    have q0 : sA ρ (fa w 0) k = g k := by rw [p1.2.1 _ (by cases w <;> rfl)]; exact (hf.1 k hk).1
    have q1 : sA ρ (fa w 1) k = g (4 + k) := by rw [p1.2.1 _ (by cases w <;> rfl)]; exact (hf.1 k hk).2.1
    have q3 : sA ρ (fa w 3) k = g (12 + k) := by
      have := p3 k hk
      rwa [if_neg (Nat.lt_irrefl k)] at this
    obtain ⟨a1, a2, a3, a4⟩ := hg.1 k hk
    obtain ⟨o1, o2, o3, o4⟩ := or_z p2
    have fin : ∀ v u, v = (bif aeF W g k then 1 else g (12 + k)) → z1 u → (u = 0 → y = 0 ∧ (aeF W g k = true → g (12 + k) = 1)) → RnI (ev (d + 5) 159 43 [(0, .ref (fo w)), (1, .int x1), (2, .int u), (3, .int (nI (k + 1)))] [] (mkH (uA ρ (fa w 3) k v))) Q := by
      intro v u hv hu h0
      refine nx (uA ρ (fa w 3) k v, u) ⟨Ag.A p1 (by cases w <;> rfl), hu, fun b hb => ?_, fun z b hb => ?_⟩
      · show sA (uA ρ (fa w 3) k v) (fa w 3) b = _
        rw [A_at]
        by_cases e : b = k
        · subst e; rw [if_pos rfl, if_pos (show _ < _ + 1 by omega), hv]
        · rw [if_neg e, p3 b hb]
          by_cases e2 : b < k
          · rw [if_pos e2, if_pos (by omega)]
          · rw [if_neg e2, if_neg (by omega)]
      · by_cases e : b = k
        · subst e; exact (h0 z).2
        · exact p4 (h0 z).1 b (by omega)
    rw [g_Fleet_passOne_43, hc'.1, if_neg (nI_ge hk (by omega)), ixn (by omega) (by decide), cond_true, cln (by omega), q3]
    by_cases ht : g (12 + k) = 0
    · rw [if_pos ht, cond_true, q0, c_Fleet_passOne_72 (F_step (by omega)), g_Fleet_passOne_75, q1, nx_add, c_Fleet_passOne_76 (C_has hcc'.1 (by omega)), g_Fleet_passOne_79, ixn (by omega) (by decide), cond_true, cond_true, cln (by omega), q3, nI_1]
      have hae := ae_ix hW a1 a2
      have etn : nxF (g k) (g (4 + k)) = toF g k := rfl
      rw [etn]
      cases hx : ax_ix (toF g k) (wc W) with
      | false =>
        rw [hx] at hae
        rw [cond_false, if_pos rfl, ht, nar_b (Or.inr (by decide))]
        exact fin _ _ (by rw [hae]; rfl) o2 (fun z => absurd z o4)
      | true =>
        rw [hx] at hae
        rw [cond_true, if_neg (by decide), cond_true, cond_true, ht, nar_b (Or.inl (by decide))]
        exact fin _ _ (by rw [hae, ht]; decide) o1 (fun z => ⟨o3 z, fun z2 => by rw [hae] at z2; cases z2⟩)
    · have h1 : g (12 + k) = 1 := z1_n0 a4 ht
      rw [if_neg ht, cond_true, cond_true, h1, nar_b (Or.inr (by decide)), nI_1]
      exact fin _ _ (by rw [h1]; cases aeF W g k <;> decide) o1 (fun z => ⟨o3 z, fun _ => h1⟩)
  · rintro ⟨ρ, y⟩ ⟨p1, p2, p3, p4⟩
    have p1 : Ag [10000 + fa w 3] σ ρ := p1
    show RnI (ev (d + 5) 159 43 [(0, .ref (fo w)), (1, .int x1), (2, .int y), (3, .int (nI (wb W)))] [] (mkH ρ)) Q
    have hc' := hc.ag p1 (by cases w <;> rfl)
    rw [g_Fleet_passOne_43, hc'.1, if_pos (nI_le (Nat.le_refl _) (by omega))]
    refine next ρ y p1 ⟨fun b hb => ?_, fun p hp => ?_, ?_⟩ p2 p4
    · obtain ⟨b1, b2, b3, b4⟩ := hf.1 b hb
      rw [arG_o (by omega), arG_o (by omega), arG_o (by omega), arG_t hb, p1.2.1 (fa w 0) (by cases w <;> rfl), p1.2.1 (fa w 1) (by cases w <;> rfl), p1.2.1 (fa w 2) (by cases w <;> rfl)]
      exact ⟨b1, b2, b3, by have := p3 b hb; rwa [if_pos hb] at this⟩
    · rw [arG_o (by omega), arG_o (by omega), arG_o (by omega), p1.2.1 (fa w 9) (by cases w <;> rfl), p1.2.1 (fa w 10) (by cases w <;> rfl), p1.2.1 (fa w 11) (by cases w <;> rfl)]
      exact hf.2.1 p hp
    · rw [arG_o (by omega), p1.1 (fi w 2) (by cases w <;> rfl)]; exact hf.2.2
theorem F_one (hW : WO W) (ho : OK W f) (hf : FR W w σ f) (hc : CW W w σ) (hcc : CC W σ) (hr : CR σ (sB σ (fb w)) (wV W)) :
    RnI (ev (d + 5) 159 0 [(0, .ref (fo w))] [] (mkH σ)) (fun τ x => Ag (kH w) σ τ ∧ FR W w τ (hrF W f).1 ∧ sI τ (fi w 3) = sI σ (fi w 3) + (hrF W f).2.1 ∧ sI τ (fi w 4) = sI σ (fi w 4) + (hrF W f).2.2 ∧ (x = 0 → hrF W f = (upd f 43 (f 43 + 1), 0, 0))) := by
  have w4 := hW.1
  have w9 := hW.2.1
  obtain ⟨τ1, m1, m2, m3⟩ := F_measure (d := d + 1) hW ho hf hc hr
  rw [g_Fleet_passOne_0, c_Fleet_passOne_1 m1, g_Fleet_passOne_4]
  have f1 := hf.ag m2 (by cases w <;> rfl)
  have c1 := hc.ag m2 (by cases w <;> rfl)
  have cc1 := hcc.ag m2 (by cases w <;> rfl)
  have e3 : sI τ1 (fi w 3) = sI σ (fi w 3) := m2.1 _ (by cases w <;> rfl)
  have e4 : sI τ1 (fi w 4) = sI σ (fi w 4) := m2.1 _ (by cases w <;> rfl)
  obtain ⟨hg, hz⟩ := goH_gd hW ho
  refine F_goA hW ho f1 c1 cc1 m3 (fun τ2 a2 f2 b3 b4 => ?_)
  have c2 := c1.ag a2 (by cases w <;> rfl)
  have cc2 := cc1.ag a2 (by cases w <;> rfl)
  have ms2 := m3.ag a2 (by cases w <;> rfl)
  refine F_arr hW hg.1 f2 c2 cc2 (fun τ3 x a3 f3 zx hx => ?_)
  have c3 := c2.ag a3 (by cases w <;> rfl)
  have cc3 := cc2.ag a3 (by cases w <;> rfl)
  have ms3 := ms2.ag a3 (by cases w <;> rfl)
  have hgf : ∀ i, 16 ≤ i → arG W (goH W f).1 i = f i := fun i hi => by rw [arG_o (by omega)]; exact hg.2 i (by omega)
  obtain ⟨τ4, r, k1, k2, k3, k4, k5⟩ := F_breathe (d := d + 1) hW ho (arG_ok hW hg.1) hgf f3 c3 cc3 ms3.2
  rw [c_Fleet_passOne_113 k1, g_Fleet_passOne_116]
  have a14 : Ag (kH w) σ τ4 := (((m2.wk (by cases w <;> rfl)).tr (a2.wk (by cases w <;> rfl))).tr (a3.wk (by cases w <;> rfl))).tr (k2.wk (by cases w <;> rfl))
  have i3 : sI τ4 (fi w 3) = sI τ2 (fi w 3) := by rw [k2.1 _ (by cases w <;> rfl), a3.1 _ (by cases w <;> rfl)]
  have i4 : sI τ4 (fi w 4) = sI τ2 (fi w 4) := by rw [k2.1 _ (by cases w <;> rfl), a3.1 _ (by cases w <;> rfl)]
  have ehr : (hrF W f).1 = hrG W f (goH W f).1 := rfl
  have hfin : FR W w (uI τ4 (fi w 2) (sI τ4 (fi w 2) + 1)) (hrF W f).1 := by
    rw [ehr]
    refine ⟨fun b hb => ?_, fun p hp => ?_, ?_⟩
    · obtain ⟨b1, b2, b3, b4⟩ := f3.1 b hb
      rw [arG_o (by omega)] at b1
      rw [arG_o (by omega)] at b2
      rw [arG_o (by omega)] at b3
      rw [arG_t hb] at b4
      rw [hrG_c (by omega), hrG_c (by omega), hrG_c (by omega), hrG_t hb, A_I, A_I, A_I, A_I, k2.2.1 (fa w 0) (by cases w <;> rfl), k2.2.1 (fa w 1) (by cases w <;> rfl), k2.2.1 (fa w 2) (by cases w <;> rfl), k2.2.1 (fa w 3) (by cases w <;> rfl)]
      exact ⟨b1, b2, b3, b4⟩
    · obtain ⟨b1, b2, b3⟩ := f3.2.1 p hp
      rw [arG_o (by omega)] at b1
      rw [arG_o (by omega)] at b2
      rw [hrG_m hW (by omega) (by omega), hrG_m hW (by omega) (by omega), hrG_a hW hp, A_I, A_I, A_I, k2.2.1 (fa w 9) (by cases w <;> rfl), k2.2.1 (fa w 10) (by cases w <;> rfl), k4 p hp, arG_o (by omega), arG_mo hW ho hp]
      exact ⟨b1, b2, rfl⟩
    · rw [I_S, hrG_h hW, k2.1 (fi w 2) (by cases w <;> rfl), f3.2.2, arG_o (by omega)]
  have key : ∀ y, (y = 0 → hrF W f = (upd f 43 (f 43 + 1), 0, 0)) → RnI (rI (uI τ4 (fi w 2) (sI τ4 (fi w 2) + 1)) y) (fun τ x => Ag (kH w) σ τ ∧ FR W w τ (hrF W f).1 ∧ sI τ (fi w 3) = sI σ (fi w 3) + (hrF W f).2.1 ∧ sI τ (fi w 4) = sI σ (fi w 4) + (hrF W f).2.2 ∧ (x = 0 → hrF W f = (upd f 43 (f 43 + 1), 0, 0))) := by
    intro y hy
    refine RnI.mk ⟨Ag.I a14 (by cases w <;> rfl), hfin, ?_, ?_, hy⟩
    · rw [I_I (fi_ne (by decide)), i3, b3, e3]; rfl
    · rw [I_I (fi_ne (by decide)), i4, b4, e4]; rfl
  by_cases c5 : x ||| r = 0
  · rw [if_pos c5]
    by_cases c6 : sI τ4 (fi w 3) = sI τ1 (fi w 3)
    · rw [if_pos c6]
      refine key 0 (fun _ => ?_)
      rw [i3, b3] at c6
      have hq := hz (Int32.add_eq_left.mp c6)
      have zx0 : x = 0 ∧ r = 0 := by
        rcases zx with rfl | rfl
        · rcases k3 with rfl | rfl
          · exact ⟨rfl, rfl⟩
          · exact absurd c5 (by decide)
        · rcases k3 with rfl | rfl <;> exact absurd c5 (by decide)
      have hx0 := hx zx0.1
      have hr0 := k5 zx0.2
      rw [hq] at hx0
      refine hr_same hW hq hx0 (fun p hp => ?_)
      have := hr0 p hp
      rw [arG_o (by omega), arG_mo hW ho hp, hq] at this
      exact this
    · rw [if_neg c6]
      exact key 1 (fun z => absurd z (by decide))
  · rw [if_neg c5]
    exact key 1 (fun z => absurd z (by decide))
end CPASS
