/-! What measure() finds -/
theorem RnV.eq {a b : Option ax_R} {Q : Sg → Prop} (h : a = b) (hb : RnV b Q) : RnV a Q := h ▸ hb
theorem RnI.eq {a b : Option ax_R} {Q : Sg → Int32 → Prop} (h : a = b) (hb : RnI b Q) : RnI a Q := h ▸ hb
theorem fa_ne {w : Bool} {i j : Nat} (h : j ≠ i) : fa w j ≠ fa w i := by
  cases w
  · show 10 + j ≠ 10 + i; omega
  · show 24 + j ≠ 24 + i; omega
theorem rd {w : Bool} {i j n : Nat} {σ : Sg} {x : Int32} (h : j ≠ i) : sA (uA σ (fa w i) n x) (fa w j) = sA σ (fa w j) := A_A (fa_ne h)
theorem fi_ne {w : Bool} {i j : Nat} (h : j ≠ i) : fi w j ≠ fi w i := by
  cases w
  · show 320 + j ≠ 320 + i; omega
  · show 1472 + j ≠ 1472 + i; omega
theorem rdi {w : Bool} {i j : Nat} {σ : Sg} {x : Int32} (h : j ≠ i) : sI (uI σ (fi w i) x) (fi w j) = sI σ (fi w j) := I_I (fi_ne h)
theorem nx_add {c h : Int32} : c + (if h = 0 then 1 else -1) = nxF c h := by
  unfold nxF
  split
  · rfl
  · exact (Int32.sub_eq_add_neg _ _).symm
theorem on_cases {W : Wd} {f : Nat → Int32} {c : Int32} (hW : WO W) : onF W f c = -1 ∨ ∃ i, i < wb W ∧ f i = c ∧ onF W f c = nI i := by
  rcases fndF_cases (fun b => f b == c) (wb W) 0 (by have := hW.1; omega) with h | ⟨i, _, h2, h3, h4⟩
  · exact Or.inl h
  · exact Or.inr ⟨i, by omega, eq_of_beq h3, h4⟩
theorem nI_nm1 {n : Nat} (h : n < 2147483648) : ¬ nI n = -1 := fun z => by
  have := congrArg Int32.toInt z
  rw [nI_toInt (by omega), show (-1 : Int32).toInt = -1 from by decide] at this
  omega
/-! bits counted -/
theorem mask_ex : ∀ (n : Nat) (P : Nat → Bool), ∃ m, m < 2 ^ n ∧ ∀ p, p < n → P p = Nat.testBit m p
  | 0, P => ⟨0, by decide, fun p hp => absurd hp (Nat.not_lt_zero p)⟩
  | n + 1, P => by
    obtain ⟨m, h1, h2⟩ := mask_ex n (fun p => P (p + 1))
    refine ⟨2 * m + (P 0).toNat, ?_, fun p hp => ?_⟩
    · have : (P 0).toNat ≤ 1 := Bool.toNat_le (P 0)
      rw [Nat.pow_succ]; omega
    · cases p with
      | zero => rw [Nat.testBit_zero]; cases P 0 <;> simp [Bool.toNat] <;> omega
      | succ p =>
        rw [Nat.testBit_succ, show (2 * m + (P 0).toNat) / 2 = m from by have : (P 0).toNat ≤ 1 := Bool.toNat_le (P 0); omega]
        exact h2 p (by omega)
def cntF (P : Nat → Bool) (p : Nat) (x : Int32) : Int32 := bif P p then x + 1 else x
theorem bc_tab : ∀ m, m < 512 → bcF (bitsF 9 (fun p => Nat.testBit m p)) = accF (cntF (fun p => Nat.testBit m p)) 9 0 := by decide +kernel
theorem accF_more {g : Nat → Int32 → Int32} {x : Int32} {n : Nat} : ∀ m, (∀ k y, n ≤ k → k < n + m → g k y = y) → accF g (n + m) x = accF g n x
  | 0, _ => rfl
  | m + 1, h => by
    show g (n + m) (accF g (n + m) x) = _
    rw [h _ _ (by omega) (by omega)]
    exact accF_more m (fun k y h1 h2 => h k y h1 (by omega))
theorem bc_bits {n : Nat} (hn : n ≤ 9) (P : Nat → Bool) : bcF (bitsF n P) = accF (cntF P) n 0 := by
  obtain ⟨m, h1, h2⟩ := mask_ex 9 (fun p => decide (p < n) && P p)
  have e1 : bitsF n P = bitsF 9 (fun p => Nat.testBit m p) := by
    unfold bitsF
    rw [show 9 = n + (9 - n) by omega, accF_more (9 - n) (fun k y k1 k2 => ?_)]
    · refine accF_congr (fun k y hk => ?_)
      dsimp only [bitF]
      rw [← h2 k (by omega), decide_eq_true hk, Bool.true_and]
    · dsimp only [bitF]
      rw [← h2 k (by omega), decide_eq_false (by omega), Bool.false_and]
      exact Int32.or_zero
  have e2 : accF (cntF P) n 0 = accF (cntF (fun p => Nat.testBit m p)) 9 0 := by
    rw [show 9 = n + (9 - n) by omega, accF_more (9 - n) (fun k y k1 k2 => ?_)]
    · refine accF_congr (fun k y hk => ?_)
      dsimp only [cntF]
      rw [← h2 k (by omega), decide_eq_true hk, Bool.true_and]
    · dsimp only [cntF]
      rw [← h2 k (by omega), decide_eq_false (by omega), Bool.false_and]
      rfl
  rw [e1, e2]
  exact bc_tab m h1
def kM (w : Bool) : List Nat := [10000 + fa w 4, 10000 + fa w 5, 10000 + fa w 6, 10000 + fa w 7, 10000 + fa w 12, 10008, 10009, 10048, 10049]
theorem kV_kM {w u : Bool} : (kV u).all (fun x => (kM w).contains x) = true := by cases u <;> cases w <;> rfl
def crF (f : Nat → Int32) (b p : Nat) (x : Int32) : Int32 := if f (16 + p) = nI b then x + 1 else x
section MEAS
variable {d : Nat} {σ : Sg} {w : Bool} {W : Wd} {f : Nat → Int32}
theorem M_1 (hW : WO W) (hf : FR W w σ f) (hc : CW W w σ) {Q : Sg → Prop}
    (next : ∀ τ, Ag (kM w) σ τ → (∀ b, b < wb W → sA τ (fa w 4) b = -(f (8 + b)) ∧ sA τ (fa w 5) b = 0 ∧ sA τ (fa w 6) b = 0 ∧ sA τ (fa w 7) b = meF W f b) → RnV (ev (d + 3) 157 79 [(0, .ref (fo w)), (1, .int 0)] [] (mkH τ)) Q) :
    RnV (ev (d + 3) 157 0 [(0, .ref (fo w))] [] (mkH σ)) Q := by
  have w4 := hW.1
  rw [g_Fleet_measure_0]
  refine lpG (α := Sg) (n := wb W) (P := fun k τ => Ag (kM w) σ τ ∧ ∀ b, b < k → sA τ (fa w 4) b = -(f (8 + b)) ∧ sA τ (fa w 5) b = 0 ∧ sA τ (fa w 6) b = 0 ∧ sA τ (fa w 7) b = meF W f b)
    (f := fun k τ => ev (d + 3) 157 2 [(0, .ref (fo w)), (1, .int (nI k))] [] (mkH τ)) (Q := fun o => RnV o Q) ?_ ?_ (wb W) 0 σ (by omega) ⟨Ag.rf, fun b hb => absurd hb (Nat.not_lt_zero b)⟩
  · rintro k ρ hk ⟨ha, hp⟩ nx
    show RnV (ev (d + 3) 157 2 [(0, .ref (fo w)), (1, .int (nI k))] [] (mkH ρ)) Q
    have hf' := hf.ag ha (by cases w <;> rfl)
    have hc' := hc.ag ha (by cases w <;> rfl)
    rw [g_Fleet_measure_2, hc'.1, if_neg (nI_ge hk (by omega)), ixn (by omega) (by decide)]
    simp only [cond_true, cln (show k < 2147483648 by omega), rd (w := w) (i := 4) (j := 0) (by decide), rd (w := w) (i := 5) (j := 0) (by decide), rd (w := w) (i := 6) (j := 0) (by decide), (hf'.1 k hk).1, (hf'.1 k hk).2.2.1]
    rw [c_Fleet_measure_51 (F_step (by omega)), g_Fleet_measure_54]
    simp only [rd (w := w) (i := 4) (j := 1) (by decide), rd (w := w) (i := 5) (j := 1) (by decide), rd (w := w) (i := 6) (j := 1) (by decide), (hf'.1 k hk).2.1, nx_add, I_A, hc'.1]
    rw [c_Fleet_measure_59 (F_on (by omega)), g_Fleet_measure_62]
    have eon : fndF (fun b => sA (uA (uA (uA ρ (fa w 4) k (-(f (8 + k)))) (fa w 5) k 0) (fa w 6) k 0) (fa w 0) b == nxF (f k) (f (4 + k))) (wb W) 0 = onF W f (nxF (f k) (f (4 + k))) := by
      refine fndF_congr _ _ (fun i _ hi => ?_)
      simp only [rd (w := w) (i := 4) (j := 0) (by decide), rd (w := w) (i := 5) (j := 0) (by decide), rd (w := w) (i := 6) (j := 0) (by decide), (hf'.1 i (by omega)).1]
    rw [eon, ixn (by omega) (by decide), cond_true, cond_true, cln (by omega), nI_1]
    have fin : ∀ v, meF W f k = v → RnV (ev (d + 3) 157 2 [(0, .ref (fo w)), (1, .int (nI (k + 1)))] [] (mkH (uA (uA (uA (uA ρ (fa w 4) k (-(f (8 + k)))) (fa w 5) k 0) (fa w 6) k 0) (fa w 7) k v))) Q := by
      intro v hv
      refine nx _ ⟨?_, fun b hb => ?_⟩
      · exact Ag.A (Ag.A (Ag.A (Ag.A ha (by cases w <;> rfl)) (by cases w <;> rfl)) (by cases w <;> rfl)) (by cases w <;> rfl)
      · simp only [rd (w := w) (i := 4) (j := 5) (by decide), rd (w := w) (i := 4) (j := 6) (by decide), rd (w := w) (i := 4) (j := 7) (by decide), rd (w := w) (i := 5) (j := 4) (by decide), rd (w := w) (i := 5) (j := 6) (by decide), rd (w := w) (i := 5) (j := 7) (by decide), rd (w := w) (i := 6) (j := 4) (by decide), rd (w := w) (i := 6) (j := 5) (by decide), rd (w := w) (i := 6) (j := 7) (by decide), rd (w := w) (i := 7) (j := 4) (by decide), rd (w := w) (i := 7) (j := 5) (by decide), rd (w := w) (i := 7) (j := 6) (by decide), A_at]
        by_cases e : b = k
        · subst e; simp only [if_true, hv, and_self]
        · simp only [if_neg e]; exact hp b (by omega)
    rcases on_cases (W := W) (f := f) (c := nxF (f k) (f (4 + k))) hW with h | ⟨i, h1, h2, h3⟩
    · rw [h, if_pos (by decide)]
      exact fin 0 (by unfold meF; rw [if_pos h])
    · rw [h3, if_neg (nI_pos (by omega))]
      exact fin 1 (by unfold meF; rw [h3, if_neg (nI_nm1 (by omega))])
  · rintro ρ ⟨ha, hp⟩
    show RnV (ev (d + 3) 157 2 [(0, .ref (fo w)), (1, .int (nI (wb W)))] [] (mkH ρ)) Q
    have hc' := hc.ag ha (by cases w <;> rfl)
    rw [g_Fleet_measure_2, hc'.1, if_pos (nI_le (Nat.le_refl _) (by omega))]
    exact next ρ ha hp
theorem M_2 (hW : WO W) (ho : OK W f) (hf : FR W w σ f) (hc : CW W w σ) {Q : Sg → Prop} (h6 : ∀ b, b < wb W → sA σ (fa w 6) b = 0)
    (next : ∀ τ, Ag [10000 + fa w 6] σ τ → (∀ b, b < wb W → sA τ (fa w 6) b = accF (crF f b) (wp W) 0) → RnV (ev (d + 3) 157 110 [(0, .ref (fo w)), (1, .int 0)] [] (mkH τ)) Q) :
    RnV (ev (d + 3) 157 79 [(0, .ref (fo w)), (1, .int 0)] [] (mkH σ)) Q := by
  have w4 := hW.1
  have w9 := hW.2.1
  refine lpG (α := Sg) (n := wp W) (P := fun k τ => Ag [10000 + fa w 6] σ τ ∧ ∀ b, b < wb W → sA τ (fa w 6) b = accF (crF f b) k 0)
    (f := fun k τ => ev (d + 3) 157 79 [(0, .ref (fo w)), (1, .int (nI k))] [] (mkH τ)) (Q := fun o => RnV o Q) ?_ ?_ (wp W) 0 σ (by omega) ⟨Ag.rf, h6⟩
  · rintro k ρ hk ⟨ha, hp⟩ nx
    show RnV (ev (d + 3) 157 79 [(0, .ref (fo w)), (1, .int (nI k))] [] (mkH ρ)) Q
    have hf' := hf.ag ha (by cases w <;> rfl)
    have hc' := hc.ag ha (by cases w <;> rfl)
    have hx := (ho.2 k hk).1
    rw [g_Fleet_measure_79, hc'.2.1, if_neg (nI_ge hk (by omega)), ixn (by omega) (by decide), cond_true, cln (by omega), (hf'.2.1 k hk).1, ix_mono hx w4 (by decide), cond_true, cond_true, nI_1]
    refine nx _ ⟨Ag.A ha (by cases w <;> rfl), fun b hb => ?_⟩
    rw [A_at]
    show _ = (if f (16 + k) = nI b then accF (crF f b) k 0 + 1 else accF (crF f b) k 0)
    have hcx := ix_cl hx
    have hlt := ix_lt hx
    by_cases e : b = Int32.toNatClampNeg (f (16 + k))
    · rw [if_pos e, if_pos (by rw [e]; exact hcx), ← e, hp b hb]
    · rw [if_neg e, if_neg (fun z => e ((nI_eq (by omega) (by omega)).mp (hcx.symm.trans z)).symm), hp b hb]
  · rintro ρ ⟨ha, hp⟩
    show RnV (ev (d + 3) 157 79 [(0, .ref (fo w)), (1, .int (nI (wp W)))] [] (mkH ρ)) Q
    have hc' := hc.ag ha (by cases w <;> rfl)
    rw [g_Fleet_measure_79, hc'.2.1, if_pos (nI_le (Nat.le_refl _) (by omega))]
    exact next ρ ha hp
theorem cr_bc (hW : WO W) (b : Nat) : bcF (abF W f (nI b)) = accF (crF f b) (wp W) 0 := by
  unfold abF
  rw [bc_bits hW.2.1]
  refine accF_congr (fun k y hk => ?_)
  show (bif f (16 + k) == nI b then y + 1 else y) = if f (16 + k) = nI b then y + 1 else y
  by_cases e : f (16 + k) = nI b
  · rw [beq_t e, if_pos e]; rfl
  · rw [beq_f e, if_neg e]; rfl
/-- how it is behind k passengers -/
def P3 (W : Wd) (f : Nat → Int32) (w : Bool) (k : Nat) (τ : Sg) : Prop := (∀ b, b < wb W → sA τ (fa w 4) b = accF (wiG W f b) k (-(f (8 + b))) ∧ sA τ (fa w 5) b = accF (hoG f b) k 0 ∧ sA τ (fa w 6) b = accF (crF f b) (wp W) 0 ∧ sA τ (fa w 7) b = meF W f b) ∧ (∀ p, p < k → sA τ (fa w 12) p = puF W f p)
theorem M_3 (hW : WO W) (ho : OK W f) (hf : FR W w σ f) (hc : CW W w σ) (hr : CR σ (sB σ (fb w)) (wV W)) {Q : Sg → Prop} (h3 : P3 W f w 0 σ)
    (next : ∀ τ, Ag (kM w) σ τ → P3 W f w (wp W) τ → RnV (ev (d + 3) 157 257 [(0, .ref (fo w)), (1, .int 0)] [] (mkH τ)) Q) :
    RnV (ev (d + 3) 157 110 [(0, .ref (fo w)), (1, .int 0)] [] (mkH σ)) Q := by
  have w4 := hW.1
  have w9 := hW.2.1
  refine lpG (α := Sg) (n := wp W) (P := fun k τ => Ag (kM w) σ τ ∧ P3 W f w k τ)
    (f := fun k τ => ev (d + 3) 157 110 [(0, .ref (fo w)), (1, .int (nI k))] [] (mkH τ)) (Q := fun o => RnV o Q) ?_ ?_ (wp W) 0 σ (by omega) ⟨Ag.rf, h3⟩
  · rintro k ρ hk ⟨ha, hp⟩ nx
    show RnV (ev (d + 3) 157 110 [(0, .ref (fo w)), (1, .int (nI k))] [] (mkH ρ)) Q
    have hf' := hf.ag ha (by cases w <;> rfl)
    have hc' := hc.ag ha (by cases w <;> rfl)
    have hx := (ho.2 k hk).1
    have hx4 := ix_mono hx w4 (by decide)
    have hcx := ix_cl hx
    have hlt := ix_lt hx
    have kl : k < 2147483648 := by omega
    obtain ⟨q1, q2, q3⟩ := hf'.2.1 k hk
    obtain ⟨r1, r2, r3, r4⟩ := hp.1 _ hlt
    have cond : ∀ b, b < wb W → (f (16 + k) = nI b ↔ b = Int32.toNatClampNeg (f (16 + k))) := fun b hb => ⟨fun z => ((nI_eq (by omega) (by omega)).mp (hcx.symm.trans z)).symm, fun z => by rw [z]; exact hcx⟩
    rw [g_Fleet_measure_110, hc'.2.1, if_neg (nI_ge hk (by omega)), ixn (by omega) (by decide)]
    simp only [cond_true, cln kl, rd (w := w) (i := 12) (j := 10) (by decide), rd (w := w) (i := 12) (j := 4) (by decide), rd (w := w) (i := 12) (j := 6) (by decide), rd (w := w) (i := 12) (j := 7) (by decide), rd (w := w) (i := 12) (j := 2) (by decide), rd (w := w) (i := 12) (j := 8) (by decide), rd (w := w) (i := 12) (j := 11) (by decide), q1, q2, q3, hx4, nI_1]
    by_cases aw : f (25 + k) = 0
    · simp only [if_pos aw]
      refine nx _ ⟨Ag.A (Ag.A ha (by cases w <;> rfl)) (by cases w <;> rfl), fun b hb => ?_, fun p hp2 => ?_⟩
      · simp only [rd (w := w) (i := 4) (j := 5) (by decide), rd (w := w) (i := 4) (j := 6) (by decide), rd (w := w) (i := 4) (j := 7) (by decide), rd (w := w) (i := 12) (j := 4) (by decide), rd (w := w) (i := 12) (j := 5) (by decide), rd (w := w) (i := 12) (j := 6) (by decide), rd (w := w) (i := 12) (j := 7) (by decide), A_at]
        obtain ⟨s1, s2, s3, s4⟩ := hp.1 b hb
        refine ⟨?_, ?_, s3, s4⟩
        · show _ = wiG W f b k (accF (wiG W f b) k (-(f (8 + b))))
          show _ = (if f (16 + k) = nI b then (if f (25 + k) = 0 then accF (wiG W f b) k (-(f (8 + b))) + -1 else accF (wiG W f b) k (-(f (8 + b))) + puF W f k) else accF (wiG W f b) k (-(f (8 + b))))
          by_cases e : b = Int32.toNatClampNeg (f (16 + k))
          · rw [if_pos e, if_pos ((cond b hb).mpr e), if_pos aw, ← e, s1]; rfl
          · rw [if_neg e, if_neg (fun z => e ((cond b hb).mp z)), s1]
        · show _ = (if f (16 + k) = nI b ∧ ¬ f (25 + k) = 0 then accF (hoG f b) k 0 + f (34 + k) else accF (hoG f b) k 0)
          rw [if_neg (fun z => z.2 aw), s2]
      · simp only [rd (w := w) (i := 4) (j := 12) (by decide), A_at]
        by_cases e : p = k
        · subst e; rw [if_pos rfl]; unfold puF; rw [if_pos aw]
        · rw [if_neg e]; exact hp.2 p (by omega)
    · simp only [if_neg aw, (hf'.1 _ hlt).2.2.1, hc'.2.2 k hk, hf'.2.2, r3, r4]
      have hr' : CR (uA ρ (fa w 12) k 0) (sB ρ (fb w)) (wV W) := by
        have e : sB ρ (fb w) = sB σ (fb w) := ha.2.2.2.1 (fb w) (by cases w <;> rfl)
        rw [e]
        exact hr.ag (Ag.A ha (K := kM w) (by cases w <;> rfl)) (by generalize sB σ (fb w) = u; cases w <;> cases u <;> rfl)
      obtain ⟨τ, x, hv, hva, hvx⟩ := R_value (d := d) (x1 := f (34 + k)) (x2 := wl W k) (x3 := f (8 + Int32.toNatClampNeg (f (16 + k)))) (x4 := accF (crF f (Int32.toNatClampNeg (f (16 + k)))) (wp W) 0) (x5 := meF W f (Int32.toNatClampNeg (f (16 + k)))) (x6 := f 43 - f 43 / 12 * 12) hr'
      refine RnV.eq (c_Fleet_measure_182 (σ := uA ρ (fa w 12) k 0) hv) ?_
      have ev0 : x = puV W f k := by
        rw [hvx]; unfold puV
        rw [show abF W f (f (16 + k)) = abF W f (nI (Int32.toNatClampNeg (f (16 + k)))) by rw [← hcx], cr_bc hW]
      have hta : Ag (kM w) σ τ := (Ag.A ha (by cases w <;> rfl)).tr (hva.wk kV_kM)
      have hfτ := hf.ag hta (by cases w <;> rfl)
      obtain ⟨t1, t2, t3⟩ := hfτ.2.1 k hk
      have y4 : sA τ (fa w 4) = sA ρ (fa w 4) := (hva.2.1 _ (by generalize sB ρ (fb w) = u; cases w <;> cases u <;> rfl)).trans (rd (by decide))
      have y5 : sA τ (fa w 5) = sA ρ (fa w 5) := (hva.2.1 _ (by generalize sB ρ (fb w) = u; cases w <;> cases u <;> rfl)).trans (rd (by decide))
      have y6 : sA τ (fa w 6) = sA ρ (fa w 6) := (hva.2.1 _ (by generalize sB ρ (fb w) = u; cases w <;> cases u <;> rfl)).trans (rd (by decide))
      have y7 : sA τ (fa w 7) = sA ρ (fa w 7) := (hva.2.1 _ (by generalize sB ρ (fb w) = u; cases w <;> cases u <;> rfl)).trans (rd (by decide))
      have y12 : sA τ (fa w 12) = sA (uA ρ (fa w 12) k 0) (fa w 12) := hva.2.1 _ (by generalize sB ρ (fb w) = u; cases w <;> cases u <;> rfl)
      rw [g_Fleet_measure_185]
      simp only [ixn (show k < 9 by omega) (show 9 < 2147483648 by decide), hx4, cond_true, cln kl, t3, ev0, rd (w := w) (i := 12) (j := 5) (by decide), rd (w := w) (i := 12) (j := 11) (by decide), rd (w := w) (i := 12) (j := 10) (by decide), rd (w := w) (i := 5) (j := 10) (by decide), rd (w := w) (i := 5) (j := 4) (by decide), rd (w := w) (i := 12) (j := 4) (by decide), rd (w := w) (i := 5) (j := 12) (by decide), A_at, if_true, t2, if_neg aw, nI_1, y4, y5]
      have ep : (if 0 < (if puV W f k < f (34 + k) then puV W f k else f (34 + k)) then (if puV W f k < f (34 + k) then puV W f k else f (34 + k)) else 0) = puF W f k := by
        unfold puF; rw [if_neg aw]; rfl
      rw [ep]
      refine nx _ ⟨Ag.A (Ag.A (Ag.A hta (by cases w <;> rfl)) (by cases w <;> rfl)) (by cases w <;> rfl), fun b hb => ?_, fun p hp2 => ?_⟩
      · obtain ⟨s1, s2, s3, s4⟩ := hp.1 b hb
        simp only [rd (w := w) (i := 4) (j := 5) (by decide), rd (w := w) (i := 4) (j := 6) (by decide), rd (w := w) (i := 4) (j := 7) (by decide), rd (w := w) (i := 5) (j := 4) (by decide), rd (w := w) (i := 5) (j := 6) (by decide), rd (w := w) (i := 5) (j := 7) (by decide), rd (w := w) (i := 12) (j := 4) (by decide), rd (w := w) (i := 12) (j := 5) (by decide), rd (w := w) (i := 12) (j := 6) (by decide), rd (w := w) (i := 12) (j := 7) (by decide), A_at, y4, y5, y6, y7]
        refine ⟨?_, ?_, s3, s4⟩
        · show _ = (if f (16 + k) = nI b then (if f (25 + k) = 0 then accF (wiG W f b) k (-(f (8 + b))) + -1 else accF (wiG W f b) k (-(f (8 + b))) + puF W f k) else accF (wiG W f b) k (-(f (8 + b))))
          by_cases e : b = Int32.toNatClampNeg (f (16 + k))
          · rw [if_pos e, if_pos ((cond b hb).mpr e), if_neg aw, ← e, s1]
          · rw [if_neg e, if_neg (fun z => e ((cond b hb).mp z)), s1]
        · show _ = (if f (16 + k) = nI b ∧ ¬ f (25 + k) = 0 then accF (hoG f b) k 0 + f (34 + k) else accF (hoG f b) k 0)
          by_cases e : b = Int32.toNatClampNeg (f (16 + k))
          · rw [if_pos e, if_pos ⟨(cond b hb).mpr e, aw⟩, ← e, s2]
          · rw [if_neg e, if_neg (fun z => e ((cond b hb).mp z.1)), s2]
      · simp only [rd (w := w) (i := 4) (j := 12) (by decide), rd (w := w) (i := 5) (j := 12) (by decide), A_at, y12]
        by_cases e : p = k
        · rw [if_pos e, e]
        · rw [if_neg e, if_neg e]; exact hp.2 p (by omega)
  · rintro ρ ⟨ha, hp⟩
    show RnV (ev (d + 3) 157 110 [(0, .ref (fo w)), (1, .int (nI (wp W)))] [] (mkH ρ)) Q
    have hc' := hc.ag ha (by cases w <;> rfl)
    rw [g_Fleet_measure_110, hc'.2.1, if_pos (nI_le (Nat.le_refl _) (by omega))]
    exact next ρ ha hp
/-- what is measured -/
def MS (W : Wd) (f : Nat → Int32) (w : Bool) (τ : Sg) : Prop := (∀ b, b < wb W → sA τ (fa w 4) b = wiF W f b ∧ sA τ (fa w 5) b = hoF W f b) ∧ (∀ p, p < wp W → sA τ (fa w 12) p = puF W f p)
theorem M_4 (hW : WO W) (hc : CW W w σ) (h3 : P3 W f w (wp W) σ) : RnV (ev (d + 3) 157 257 [(0, .ref (fo w)), (1, .int 0)] [] (mkH σ)) (fun τ => Ag (kM w) σ τ ∧ MS W f w τ) := by
  have w4 := hW.1
  refine lpG (α := Sg) (n := wb W) (P := fun k τ => Ag [10000 + fa w 4] σ τ ∧ ∀ b, b < wb W → sA τ (fa w 4) b = if b < k then wiF W f b else accF (wiG W f b) (wp W) (-(f (8 + b))))
    (f := fun k τ => ev (d + 3) 157 257 [(0, .ref (fo w)), (1, .int (nI k))] [] (mkH τ)) (Q := fun o => RnV o _) ?_ ?_ (wb W) 0 σ (by omega) ⟨Ag.rf, fun b hb => by rw [if_neg (Nat.not_lt_zero b)]; exact (h3.1 b hb).1⟩
  · rintro k ρ hk ⟨ha, hp⟩ nx
    show RnV (ev (d + 3) 157 257 [(0, .ref (fo w)), (1, .int (nI k))] [] (mkH ρ)) _
    have hc' := hc.ag ha (by cases w <;> rfl)
    rw [g_Fleet_measure_257, hc'.1, if_neg (nI_ge hk (by omega)), ixn (by omega) (by decide), cond_true, cond_true, cln (by omega), nI_1]
    refine nx _ ⟨Ag.A ha (by cases w <;> rfl), fun b hb => ?_⟩
    rw [A_at]
    by_cases e : b = k
    · subst e; rw [if_pos rfl, if_pos (show b < b + 1 by omega), hp b hb, if_neg (Nat.lt_irrefl b)]; rfl
    · rw [if_neg e, hp b hb]
      by_cases e2 : b < k
      · rw [if_pos e2, if_pos (by omega)]
      · rw [if_neg e2, if_neg (by omega)]
  · rintro ρ ⟨ha, hp⟩
    show RnV (ev (d + 3) 157 257 [(0, .ref (fo w)), (1, .int (nI (wb W)))] [] (mkH ρ)) _
    have hc' := hc.ag ha (by cases w <;> rfl)
    rw [g_Fleet_measure_257, hc'.1, if_pos (nI_le (Nat.le_refl _) (by omega))]
    have y5 : sA ρ (fa w 5) = sA σ (fa w 5) := ha.2.1 _ (by cases w <;> rfl)
    have y12 : sA ρ (fa w 12) = sA σ (fa w 12) := ha.2.1 _ (by cases w <;> rfl)
    refine RnV.mk ⟨ha.wk (by cases w <;> rfl), fun b hb => ⟨?_, ?_⟩, fun p hp2 => ?_⟩
    · rw [hp b hb, if_pos hb]
    · rw [y5]; exact (h3.1 b hb).2.1
    · rw [y12]; exact h3.2 p hp2
theorem F_measure (hW : WO W) (ho : OK W f) (hf : FR W w σ f) (hc : CW W w σ) (hr : CR σ (sB σ (fb w)) (wV W)) : RnV (ev (d + 3) 157 0 [(0, .ref (fo w))] [] (mkH σ)) (fun τ => Ag (kM w) σ τ ∧ MS W f w τ) := by
  refine M_1 hW hf hc (fun τ a1 h1 => ?_)
  have f1 := hf.ag a1 (by cases w <;> rfl)
  have c1 := hc.ag a1 (by cases w <;> rfl)
  refine M_2 hW ho f1 c1 (fun b hb => (h1 b hb).2.2.1) (fun ρ a2 h2 => ?_)
  have f2 := f1.ag a2 (by cases w <;> rfl)
  have c2 := c1.ag a2 (by cases w <;> rfl)
  have a12 : Ag (kM w) σ ρ := a1.tr (a2.wk (by cases w <;> rfl))
  have e : sB ρ (fb w) = sB σ (fb w) := a12.2.2.2.1 (fb w) (by cases w <;> rfl)
  have r2 : CR ρ (sB ρ (fb w)) (wV W) := by
    rw [e]; exact hr.ag a12 (by generalize sB σ (fb w) = u; cases w <;> cases u <;> rfl)
  have y4 : sA ρ (fa w 4) = sA τ (fa w 4) := a2.2.1 _ (by cases w <;> rfl)
  have y5 : sA ρ (fa w 5) = sA τ (fa w 5) := a2.2.1 _ (by cases w <;> rfl)
  have y7 : sA ρ (fa w 7) = sA τ (fa w 7) := a2.2.1 _ (by cases w <;> rfl)
  refine M_3 hW ho f2 c2 r2 ⟨fun b hb => ?_, fun p hp => absurd hp (Nat.not_lt_zero p)⟩ (fun υ a3 h3 => ?_)
  · rw [y4, y5, y7]
    exact ⟨(h1 b hb).1, (h1 b hb).2.1, h2 b hb, (h1 b hb).2.2.2⟩
  · exact (M_4 hW (c2.ag a3 (by cases w <;> rfl)) h3).im (fun υ' h => ⟨(a12.tr a3).tr h.1, h.2⟩)
end MEAS
