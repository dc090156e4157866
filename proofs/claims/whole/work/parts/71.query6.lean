/-! Questions: nearest, evens, holds -/
theorem as_nI {a c : Nat} (ha : a < 1073741824) (hc : c < 1073741824) : asF (nI a - nI c) = nI (if c ≤ a then a - c else c - a) := by
  by_cases h : c ≤ a
  · rw [if_pos h, nI_sub h]
    exact if_pos (nI_pos' (by omega))
  · rw [if_neg h]
    have e : nI a - nI c = -(nI (c - a)) := by
      rw [← nI_sub (a := c) (b := a) (by omega), Int32.neg_sub]
    rw [e]
    have hn : ¬ 0 ≤ -(nI (c - a)) := by
      rw [Int32.le_iff_toInt_le, Int32.toInt_neg, nI_toInt (by omega), show (0 : Int32).toInt = 0 from by decide, Int.bmod_eq_of_le (by omega) (by omega)]
      omega
    unfold asF
    rw [if_neg hn, Int32.zero_sub, Int32.neg_neg]
theorem as_sym {a c : Nat} (ha : a < 1073741824) (hc : c < 1073741824) : asF (nI a - nI c) = asF (nI c - nI a) := by
  rw [as_nI ha hc, as_nI hc ha]
  by_cases h : c ≤ a
  · by_cases h2 : a ≤ c
    · rw [if_pos h, if_pos h2, show a - c = c - a by omega]
    · rw [if_pos h, if_neg h2]
  · rw [if_neg h, if_pos (by omega)]
theorem as_lt {a c n : Nat} (ha : a < n) (hc : c < n) (hn : n < 1073741824) : ∃ j, j < n ∧ asF (nI a - nI c) = nI j := by
  refine ⟨_, ?_, as_nI (by omega) (by omega)⟩
  split <;> omega
theorem bits_tab : ∀ m, m < 512 → bitsF 9 (fun p => Nat.testBit m p) = nI m := by decide +kernel
theorem bits_nat {n : Nat} (hn : n ≤ 9) (P : Nat → Bool) : ∃ m, m < 512 ∧ bitsF n P = nI m := by
  obtain ⟨m, h1, h2⟩ := mask_ex 9 (fun p => decide (p < n) && P p)
  refine ⟨m, h1, ?_⟩
  rw [← bits_tab m h1]
  unfold bitsF
  rw [show 9 = n + (9 - n) by omega, accF_more (9 - n) (fun k y k1 k2 => ?_)]
  · refine accF_congr (fun k y hk => ?_)
    dsimp only [bitF]
    rw [← h2 k (by omega), decide_eq_true hk, Bool.true_and]
  · dsimp only [bitF]
    rw [← h2 k (by omega), decide_eq_false (by omega), Bool.false_and]
    exact Int32.or_zero
theorem bc_small : ∀ m, m < 512 → ax_ix (bcF (nI m)) 10 = true := by decide +kernel
theorem bc_n {m : Nat} (h : m < 512) : ∃ j, j < 10 ∧ bcF (nI m) = nI j := by
  obtain ⟨j, h1, _, h2⟩ := ix_of (bc_small m h)
  exact ⟨j, h1, h2⟩
theorem and_nI {a b : Nat} : nI a &&& nI b = nI (a &&& b) := Int32.toBitVec_inj.mp (by
  show BitVec.ofNat 32 a &&& BitVec.ofNat 32 b = BitVec.ofNat 32 (a &&& b)
  exact BitVec.ofNat_and.symm)
section Q6
variable {d : Nat} {σ : Sg} {W : Wd} {f g : Nat → Int32} {x1 x2 : Int32}
theorem bo_nn (hW : WO W) (ho : OK W f) (s : Int32) : ∃ j, j ≤ 81 ∧ boF W f s = nI j := by
  have key : ∀ k, k ≤ wp W → ∃ j, j ≤ 9 * k ∧ accF (fun p x => x + (bif hsF s p then f (34 + p) else 0)) k 0 = nI j := by
    intro k
    induction k with
    | zero => exact fun _ => ⟨0, by omega, rfl⟩
    | succ k ih =>
      intro hk
      obtain ⟨j, h1, h2⟩ := ih (by omega)
      obtain ⟨i, h3, h4⟩ := (ho.2 k (by omega)).2.2
      show ∃ j, j ≤ 9 * (k + 1) ∧ accF (fun p x => x + (bif hsF s p then f (34 + p) else 0)) k 0 + (bif hsF s k then f (34 + k) else 0) = nI j
      cases hsF s k
      · exact ⟨j, by omega, by rw [cond_false, Int32.add_zero]; exact h2⟩
      · exact ⟨j + i, by omega, by rw [cond_true, h2, h4, nI_add]⟩
  obtain ⟨j, h1, h2⟩ := key (wp W) (Nat.le_refl _)
  have := hW.2.1
  exact ⟨j, by omega, h2⟩
theorem N_set (hw : MW W σ) (hW : WO W) (hf : Lv W (sA σ 51) f) : ev (d + 2) 89 0 [(0, .ref 50), (1, .int x1)] [] (mkH σ) = rI σ (boF W f x1) := by
  have w9 := hW.2.1
  rw [g_Model_breathOfSet_0]
  refine acc_loop (f := fun k z => ev (d + 2) 89 4 [(0, .ref 50), (1, .int x1), (2, .int z), (3, .int (nI k))] [] (mkH σ)) (R := fun z => rI σ z) (n := wp W) (fun k z hk => ?_) (fun z => ?_) 0
  · show ev (d + 2) 89 4 [(0, .ref 50), (1, .int x1), (2, .int z), (3, .int (nI k))] [] (mkH σ) = _
    have hh : ev (d + 1) 11 0 [(0, .int x1), (1, .int (nI k))] [] (mkH σ) = rI σ (bif hsF x1 k then 1 else 0) := by
      rw [g_Model_has_0]
      unfold hsF
      by_cases hq : (x1 >>> (nI k &&& 31)) &&& 1 = 1
      · rw [if_pos hq, beq_t hq]; rfl
      · rw [if_neg hq, beq_f hq]; rfl
    dsimp only
    rw [g_Model_breathOfSet_4, hw.2.1, if_neg (nI_ge hk (by omega)), c_Model_breathOfSet_15 hh, g_Model_breathOfSet_18, nI_1]
    cases hsF x1 k
    · rw [cond_false, if_pos rfl]; rfl
    · rw [cond_true, if_neg (by decide), add34, ixn (by omega) (by decide), cond_true, cln (by omega), (hf.2.1 k hk).2.2]; rfl
  · show ev (d + 2) 89 4 [(0, .ref 50), (1, .int x1), (2, .int z), (3, .int (nI (wp W)))] [] (mkH σ) = _
    rw [g_Model_breathOfSet_4, hw.2.1, if_pos (nI_le (Nat.le_refl _) (by omega))]
/-! evens -/
def dfF (W : Wd) (f : Nat → Int32) (s : Nat) : Int32 := asF (2 * boF W f (nI s) - boF W f (awF W f))
def evG (W : Wd) (f : Nat → Int32) (j best : Nat) : Nat := if nI (j + 1) &&& (awF W f ^^^ -1) = 0 then (if dfF W f best ≤ dfF W f (j + 1) then best else j + 1) else best
def evA (W : Wd) (f : Nat → Int32) (k : Nat) : Nat := accA (evG W f) k 0
def evS (W : Wd) (f : Nat → Int32) : Int32 × Option (List Int64) := (dfF W f (evA W f (Int32.toNatClampNeg (awF W f))), some [(nI (evA W f (Int32.toNatClampNeg (awF W f)))).toInt64, (boF W f (nI (evA W f (Int32.toNatClampNeg (awF W f))))).toInt64])
theorem df_c (hW : WO W) (ho : OK W f) (s : Nat) : asF (boF W f (awF W f) - 2 * boF W f (nI s)) = dfF W f s ∧ ∃ j, j ≤ 200 ∧ dfF W f s = nI j := by
  obtain ⟨a, a1, a2⟩ := bo_nn hW ho (nI s)
  obtain ⟨b, b1, b2⟩ := bo_nn hW ho (awF W f)
  unfold dfF
  rw [a2, b2]
  have e2 : (2 : Int32) * nI a = nI (2 * a) := (Int32.ofNat_mul 2 a).symm
  rw [e2]
  refine ⟨as_sym (by omega) (by omega), ?_⟩
  obtain ⟨j, j1, j2⟩ := as_lt (a := 2 * a) (c := b) (n := 200) (by omega) (by omega) (by decide)
  exact ⟨j, by omega, j2⟩
theorem C_evens (hd : 400 ≤ d) (h : CWo W f σ) : RnI (ev d 250 0 [(0, .ref 0)] [] (mkH σ)) (fun τ x => Ag kQc σ τ ∧ x = (evS W f).1 ∧ TDx σ τ (evS W f).2) := by
  obtain ⟨d, rfl⟩ : ∃ e, d = e + 10 := ⟨d - 10, by omega⟩
  obtain ⟨a, a1, a2⟩ := bits_nat h.1.2.1 (fun p => !(f (25 + p) == 0))
  have a2 : awF W f = nI a := a2
  have hset : ∀ {ρ : Sg} {x : Int32}, CWo W f ρ → ev (d + 9) 153 0 [(0, .ref 5), (1, .int x)] [] (mkH ρ) = rI ρ (boF W f x) := fun hc => F_boF (w := false) hc.1 hc.2.2.2.2.1 hc.2.2.1
  rw [g_Main_evens_0, c_Main_evens_4 (F_awkF (w := false) h.1 h.2.2.2.2.1 h.2.2.1), g_Main_evens_7, c_Main_evens_13 (hset h), g_Main_evens_16]
  unfold evS
  have step : ∀ (ρ : Sg) (k : Nat) (least : Int32) (best : Nat) (Q : Sg → Int32 → Prop), k ≤ a → CWo W f ρ → (least = dfF W f best ∨ least = 2147483647 ∧ best = k) → (nI k &&& (awF W f ^^^ -1) = 0 ∨ least = dfF W f best) →
      (∀ ρ2 best2, best2 = (if nI k &&& (awF W f ^^^ -1) = 0 then (if dfF W f best ≤ dfF W f k ∧ least = dfF W f best then best else k) else best) → Ag [2817, 20045] ρ ρ2 → (TD ρ2 [(nI best2).toInt64, (boF W f (nI best2)).toInt64] ∨ (ρ2 = ρ ∧ best2 = best ∧ least = dfF W f best)) → RnI (ev (d + 10) 250 24 [(0, .ref 0), (1, .int (awF W f)), (2, .int (boF W f (awF W f))), (3, .int (dfF W f best2)), (4, .int (nI (k + 1)))] [] (mkH ρ2)) Q) →
      RnI (ev (d + 10) 250 24 [(0, .ref 0), (1, .int (awF W f)), (2, .int (boF W f (awF W f))), (3, .int least), (4, .int (nI k))] [] (mkH ρ)) Q := by
    intro ρ k least best Q hk hc hl hs next
    rw [g_Main_evens_24, if_neg (by rw [a2]; exact nI_nlt hk (by omega)), m1]
    by_cases c1 : nI k &&& (awF W f ^^^ -1) = 0
    · have ea : (if 0 ≤ boF W f (awF W f) - 2 * boF W f (nI k) then boF W f (awF W f) - 2 * boF W f (nI k) else 0 - (boF W f (awF W f) - 2 * boF W f (nI k))) = dfF W f k := (df_c hc.1 hc.2.1 k).1
      rw [if_pos c1, c_Main_evens_45 (hset hc), g_Main_evens_48, ea]
      by_cases c2 : least ≤ dfF W f k
      · have hl2 : least = dfF W f best := by
          rcases hl with e | ⟨e, _⟩
          · exact e
          · obtain ⟨j, j1, j2⟩ := (df_c hc.1 hc.2.1 k).2
            rw [e, j2, Int32.le_iff_toInt_le, nI_toInt (by omega), show (2147483647 : Int32).toInt = 2147483647 from by decide] at c2
            omega
        rw [if_pos c2, hl2, nI_1]
        refine next ρ best ?_ Ag.rf (Or.inr ⟨rfl, rfl, hl2⟩)
        rw [if_pos c1, if_pos ⟨by rw [← hl2]; exact c2, hl2⟩]
      · obtain ⟨ρ2, t1, t2, t3⟩ := T_two (d := d + 7) (σ := ρ) (x := (nI k).toInt64) (y := (boF W f (nI k)).toInt64)
        rw [if_neg c2, c_Main_evens_80 t1, g_Main_evens_83, nI_1]
        refine next ρ2 k ?_ t2 (Or.inl t3)
        rw [if_pos c1, if_neg (fun z => c2 (by rw [z.2]; exact z.1))]
    · have hl2 : least = dfF W f best := by
        rcases hs with e | e
        · exact absurd e c1
        · exact e
      rw [if_neg c1, hl2, nI_1]
      exact next ρ best (by rw [if_neg c1]) Ag.rf (Or.inr ⟨rfl, rfl, hl2⟩)
  have z0 : nI 0 &&& (awF W f ^^^ -1) = 0 := Int32.zero_and
  refine step σ 0 2147483647 0 _ (by omega) h (Or.inr ⟨rfl, rfl⟩) (Or.inl z0) (fun ρ1 b1 hb1 g1 ht1 => ?_)
  have hb0 : b1 = 0 := by
    rw [hb1, if_pos z0]; split <;> rfl
  subst hb0
  have ht1 : TD ρ1 [(nI 0).toInt64, (boF W f (nI 0)).toInt64] := by
    rcases ht1 with e | ⟨_, _, e⟩
    · exact e
    · obtain ⟨j, j1, j2⟩ := (df_c h.1 h.2.1 0).2
      rw [j2] at e
      have := congrArg Int32.toInt e
      rw [nI_toInt (by omega), show (2147483647 : Int32).toInt = 2147483647 from by decide] at this
      omega
  rw [show Int32.toNatClampNeg (awF W f) = a by rw [a2]; exact nI_clamp (by omega)]
  refine lpG (α := Sg) (n := a) (P := fun k ρ => Ag kQc σ ρ ∧ CWo W f ρ ∧ TD ρ [(nI (evA W f k)).toInt64, (boF W f (nI (evA W f k))).toInt64])
    (f := fun k ρ => ev (d + 10) 250 24 [(0, .ref 0), (1, .int (awF W f)), (2, .int (boF W f (awF W f))), (3, .int (dfF W f (evA W f k))), (4, .int (nI (k + 1)))] [] (mkH ρ)) (Q := fun o => RnI o _) ?_ ?_ a 0 ρ1 (by omega) ⟨g1.wk rfl, h.ag g1 rfl, ht1⟩
  · rintro k ρ hk ⟨p1, p2, p3⟩ nx
    refine step ρ (k + 1) _ (evA W f k) _ (by omega) p2 (Or.inl rfl) (Or.inr rfl) (fun ρ2 b2 hb2 g2 ht2 => ?_)
    have e : b2 = evA W f (k + 1) := by
      rw [hb2]
      show _ = evG W f k (evA W f k)
      unfold evG
      by_cases c1 : nI (k + 1) &&& (awF W f ^^^ -1) = 0
      · rw [if_pos c1, if_pos c1]
        by_cases c2 : dfF W f (evA W f k) ≤ dfF W f (k + 1)
        · rw [if_pos ⟨c2, rfl⟩, if_pos c2]
        · rw [if_neg (fun z => c2 z.1), if_neg c2]
      · rw [if_neg c1, if_neg c1]
    rw [e] at ht2 ⊢
    refine nx ρ2 ⟨p1.tr (g2.wk rfl), p2.ag g2 rfl, ?_⟩
    rcases ht2 with e1 | ⟨e1, e2, _⟩
    · exact e1
    · rw [e1, e2]; exact p3
  · rintro ρ ⟨p1, p2, p3⟩
    show RnI (ev (d + 10) 250 24 [(0, .ref 0), (1, .int (awF W f)), (2, .int (boF W f (awF W f))), (3, .int (dfF W f (evA W f a))), (4, .int (nI (a + 1)))] [] (mkH ρ)) _
    rw [g_Main_evens_24, if_pos (by rw [a2]; exact nI_lt (by omega) (by omega))]
    exact RnI.mk ⟨p1, rfl, p3⟩
theorem M_evens (hd : 400 ≤ d) (h : MWo W f σ) : RnI (ev d 90 0 [(0, .ref 50)] [] (mkH σ)) (fun τ x => Ag kQm σ τ ∧ x = (evS W f).1 ∧ MDx σ τ (evS W f).2) := by
  obtain ⟨d, rfl⟩ : ∃ e, d = e + 10 := ⟨d - 10, by omega⟩
  obtain ⟨a, a1, a2⟩ := bits_nat h.1.2.1 (fun p => !(f (25 + p) == 0))
  have a2 : awF W f = nI a := a2
  have h1 : MWo W f (uI σ 3210 0) := h.nu rfl
  have a0 : Ag kQm σ (uI σ 3210 0) := Ag.I Ag.rf rfl
  have hset : ∀ {ρ : Sg} {x : Int32}, MWo W f ρ → ev (d + 9) 89 0 [(0, .ref 50), (1, .int x)] [] (mkH ρ) = rI ρ (boF W f x) := fun hm => N_set hm.2.2.1 hm.1 hm.2.2.2.1
  unfold evS
  rw [g_Model_evens_0, c_Model_evens_10 (N_awake (v := false) h1.1 h1.2.2.1 h1.2.1 h1.2.2.2.1), g_Model_evens_13, c_Model_evens_16 (hset h1), g_Model_evens_19, show Int32.toNatClampNeg (awF W f) = a by rw [a2]; exact nI_clamp (by omega)]
  have edf : ∀ s, (if 0 ≤ 2 * boF W f s - boF W f (awF W f) then 2 * boF W f s - boF W f (awF W f) else 0 - (2 * boF W f s - boF W f (awF W f))) = asF (2 * boF W f s - boF W f (awF W f)) := fun s => rfl
  refine lpG (α := Sg) (n := a) (P := fun k ρ => ρ = uI σ 3210 0)
    (f := fun k ρ => ev (d + 10) 90 25 [(0, .ref 50), (1, .int (awF W f)), (2, .int (boF W f (awF W f))), (3, .int (nI (evA W f k))), (4, .int (nI (k + 1)))] [] (mkH ρ)) (Q := fun o => RnI o _) ?_ ?_ a 0 (uI σ 3210 0) (by omega) rfl
  · rintro k ρ hk rfl nx
    show RnI (ev (d + 10) 90 25 [(0, .ref 50), (1, .int (awF W f)), (2, .int (boF W f (awF W f))), (3, .int (nI (evA W f k))), (4, .int (nI (k + 1)))] [] (mkH (uI σ 3210 0))) _
    have nx := nx _ rfl
    have ee : evA W f (k + 1) = evG W f k (evA W f k) := rfl
    unfold evG at ee
    rw [g_Model_evens_25, if_neg (by rw [a2]; exact nI_nlt (by omega) (by omega)), m1, nI_1]
    by_cases c1 : nI (k + 1) &&& (awF W f ^^^ -1) = 0
    · rw [if_pos c1] at ee
      rw [if_pos c1, c_Model_evens_44 (hset h1), g_Model_evens_47, c_Model_evens_56 (hset h1), g_Model_evens_59, edf, edf, nI_1]
      by_cases c2 : dfF W f (evA W f k) ≤ dfF W f (k + 1)
      · rw [if_pos c2] at ee
        rw [ee] at nx
        rw [if_pos (show asF (2 * boF W f (nI (evA W f k)) - boF W f (awF W f)) ≤ asF (2 * boF W f (nI (k + 1)) - boF W f (awF W f)) from c2)]
        exact nx
      · rw [if_neg c2] at ee
        rw [ee] at nx
        rw [if_neg (show ¬ asF (2 * boF W f (nI (evA W f k)) - boF W f (awF W f)) ≤ asF (2 * boF W f (nI (k + 1)) - boF W f (awF W f)) from c2)]
        exact nx
    · rw [if_neg c1] at ee
      rw [ee] at nx
      rw [if_neg c1]
      exact nx
  · rintro ρ rfl
    show RnI (ev (d + 10) 90 25 [(0, .ref 50), (1, .int (awF W f)), (2, .int (boF W f (awF W f))), (3, .int (nI (evA W f a))), (4, .int (nI (a + 1)))] [] (mkH (uI σ 3210 0))) _
    obtain ⟨ρ2, t1, t2, t3⟩ := N_tell1 (d := d + 8) (σ := uI σ 3210 0) (x := (nI (evA W f a)).toInt64)
    have m2 := h1.ag t2 rfl
    obtain ⟨ρ3, u1, u2, u3⟩ := N_tell2 (d := d + 8) (y := (boF W f (nI (evA W f a))).toInt64) t3
    have m3 := m2.ag u2 rfl
    rw [g_Model_evens_25, if_pos (by rw [a2]; exact nI_lt (by omega) (by omega)), c_Model_evens_85 t1, g_Model_evens_88, c_Model_evens_91 (hset m2), g_Model_evens_94, c_Model_evens_95 u1, g_Model_evens_98, c_Model_evens_101 (hset m3), g_Model_evens_104]
    exact RnI.mk ⟨(a0.tr (t2.wk rfl)).tr (u2.wk rfl), rfl, u3⟩
/-! holds -/
def hlG (W : Wd) (f : Nat → Int32) (A v : Int32) (j : Nat) (o : Option Nat) : Option Nat := if nI (j + 1) &&& (A ^^^ -1) = 0 then (if boF W f (nI (j + 1)) < v then o else match o with
  | none => some (j + 1)
  | some s => if bcF (nI s) ≤ bcF (nI (j + 1)) then o else some (j + 1)) else o
def hlA (W : Wd) (f : Nat → Int32) (A v : Int32) (k : Nat) : Option Nat := accA (hlG W f A v) k none
def hlS (x1 x2 : Int32) (W : Wd) (f : Nat → Int32) : Int32 × Option (List Int64) := bif ax_ix x1 (wb W) then (if inF x2 1 99 = 0 then (-1, none) else match hlA W f (abF W f x1 &&& awF W f) x2 (Int32.toNatClampNeg (abF W f x1 &&& awF W f)) with
  | none => (-2, none)
  | some s => (bcF (nI s), some [(nI s).toInt64])) else (-1, none)
theorem hl_c {A v : Int32} {k : Nat} : hlA W f A v k = none ∨ ∃ s, s ≤ k ∧ hlA W f A v k = some s := by
  have : ∀ n, n ≤ k → (hlA W f A v n = none ∨ ∃ s, s ≤ n ∧ hlA W f A v n = some s) := by
    intro n
    induction n with
    | zero => exact fun _ => Or.inl rfl
    | succ n ih =>
      intro hn
      have e : hlA W f A v (n + 1) = hlG W f A v n (hlA W f A v n) := rfl
      rw [e]
      rcases ih (by omega) with h1 | ⟨s, s1, s2⟩
      · rw [h1]; unfold hlG
        split
        · split
          · exact Or.inl rfl
          · exact Or.inr ⟨n + 1, Nat.le_refl _, rfl⟩
        · exact Or.inl rfl
      · rw [s2]; unfold hlG
        split
        · split
          · exact Or.inr ⟨s, by omega, rfl⟩
          · show _ ∨ _
            dsimp only
            split
            · exact Or.inr ⟨s, by omega, rfl⟩
            · exact Or.inr ⟨n + 1, Nat.le_refl _, rfl⟩
        · exact Or.inr ⟨s, by omega, rfl⟩
  exact this k (Nat.le_refl _)
def fwF (o : Option Nat) : Int32 := match o with
  | none => 2147483647
  | some s => bcF (nI s)
def fdF (o : Option Nat) : Int32 := match o with
  | none => -1
  | some s => nI s
theorem C_holds (hd : 400 ≤ d) (h : CWo W f σ) : RnI (ev d 255 0 [(0, .ref 0), (1, .int x1), (2, .int x2)] [] (mkH σ)) (fun τ x => Ag kQc σ τ ∧ x = (hlS x1 x2 W f).1 ∧ TDx σ τ (hlS x1 x2 W f).2) := by
  obtain ⟨d, rfl⟩ : ∃ e, d = e + 10 := ⟨d - 10, by omega⟩
  have w4 := h.1.1
  unfold hlS
  rw [g_Main_holds_0, c_Main_holds_5 (F_hasB (w := false) h.2.2.1.1 (by omega)), g_Main_holds_8]
  cases hx : ax_ix x1 (wb W) with
  | false => rw [cond_false, if_pos rfl, m1]; exact RnI.mk ⟨Ag.rf, rfl, rfl, rfl⟩
  | true =>
    rw [cond_true, if_neg (by decide), c_Main_holds_15 K_in, g_Main_holds_18, cond_true]
    by_cases hi : inF x2 1 99 = 0
    · rw [if_pos hi, if_pos hi, m1]; exact RnI.mk ⟨Ag.rf, rfl, rfl, rfl⟩
    · obtain ⟨a, a1, a2⟩ := bits_nat h.1.2.1 (fun p => f (16 + p) == x1)
      obtain ⟨a', a1', a2'⟩ := bits_nat h.1.2.1 (fun p => !(f (25 + p) == 0))
      have eA : abF W f x1 &&& awF W f = nI (a &&& a') := by
        show bitsF (wp W) _ &&& bitsF (wp W) _ = _
        rw [a2, a2', and_nI]
      have hA : a &&& a' < 512 := Nat.lt_of_le_of_lt Nat.and_le_left a1
      have hset : ∀ {ρ : Sg} {x : Int32}, CWo W f ρ → ev (d + 9) 153 0 [(0, .ref 5), (1, .int x)] [] (mkH ρ) = rI ρ (boF W f x) := fun hc => F_boF (w := false) hc.1 hc.2.2.2.2.1 hc.2.2.1
      rw [if_neg hi, if_neg hi, c_Main_holds_28 (F_abF (w := false) h.1 h.2.2.2.2.1 h.2.2.1), g_Main_holds_31, c_Main_holds_35 (F_awkF (w := false) h.1 h.2.2.2.2.1 h.2.2.1), g_Main_holds_38, eA, cln (n := a &&& a') (by omega)]
      generalize (a &&& a') = t at hA
      refine lpG (α := Sg) (n := t) (P := fun k ρ => Ag kQc σ ρ ∧ CWo W f ρ ∧ TDx σ ρ ((hlA W f (nI t) x2 k).map (fun s => [(nI s).toInt64])))
        (f := fun k ρ => ev (d + 10) 255 48 [(0, .ref 0), (1, .int x1), (2, .int x2), (3, .int (nI t)), (4, .int (fwF (hlA W f (nI t) x2 k))), (5, .int (nI (k + 1)))] [] (mkH ρ)) (Q := fun o => RnI o _) ?_ ?_ t 0 σ (by omega) ⟨Ag.rf, h, rfl, rfl⟩
      · rintro k ρ hk ⟨p1, p2, p3⟩ nx
        show RnI (ev (d + 10) 255 48 [(0, .ref 0), (1, .int x1), (2, .int x2), (3, .int (nI t)), (4, .int (fwF (hlA W f (nI t) x2 k))), (5, .int (nI (k + 1)))] [] (mkH ρ)) _
        have ee : hlA W f (nI t) x2 (k + 1) = hlG W f (nI t) x2 k (hlA W f (nI t) x2 k) := rfl
        have nx : ∀ ρ2, Ag kQc σ ρ2 ∧ CWo W f ρ2 ∧ TDx σ ρ2 ((hlA W f (nI t) x2 (k + 1)).map (fun s => [(nI s).toInt64])) → RnI (ev (d + 10) 255 48 [(0, .ref 0), (1, .int x1), (2, .int x2), (3, .int (nI t)), (4, .int (fwF (hlA W f (nI t) x2 (k + 1)))), (5, .int (nI (k + 1 + 1)))] [] (mkH ρ2)) _ := nx
        rw [ee] at nx
        unfold hlG at nx
        rw [g_Main_holds_48, if_neg (nI_nlt (by omega) (by omega)), m1, nI_1]
        obtain ⟨jb, jb1, jb2⟩ := bc_n (m := k + 1) (by omega)
        by_cases c1 : nI (k + 1) &&& (nI t ^^^ -1) = 0
        · rw [if_pos c1] at nx
          rw [if_pos c1, c_Main_holds_65 bc_ev, g_Main_holds_68, nI_1]
          have upd : boF W f (nI (k + 1)) < x2 → RnI (ev (d + 10) 255 48 [(0, .ref 0), (1, .int x1), (2, .int x2), (3, .int (nI t)), (4, .int (fwF (hlA W f (nI t) x2 k))), (5, .int (nI (k + 1 + 1)))] [] (mkH ρ)) _ := fun c2 => by
            rw [if_pos c2] at nx
            exact nx ρ ⟨p1, p2, p3⟩
          have take : ∀ (Q : Sg → Int32 → Prop), (∀ ρ2, Ag kQc σ ρ2 ∧ CWo W f ρ2 ∧ TDx σ ρ2 (some [(nI (k + 1)).toInt64]) → RnI (ev (d + 10) 255 48 [(0, .ref 0), (1, .int x1), (2, .int x2), (3, .int (nI t)), (4, .int (bcF (nI (k + 1)))), (5, .int (nI (k + 1 + 1)))] [] (mkH ρ2)) Q) → RnI (ev (d + 10) 255 88 [(0, .ref 0), (1, .int x1), (2, .int x2), (3, .int (nI t)), (4, .int (fwF (hlA W f (nI t) x2 k))), (5, .int (nI (k + 1)))] [.int (nI (k + 1))] (mkH ρ)) Q := fun Q nx2 => by
            obtain ⟨ρ2, t1, t2, t3⟩ := T_one (d := d + 7) (σ := ρ) (x := (nI (k + 1)).toInt64)
            rw [c_Main_holds_88 bc_ev, g_Main_holds_91, c_Main_holds_100 t1, g_Main_holds_103, nI_1]
            exact nx2 ρ2 ⟨p1.tr (t2.wk rfl), p2.ag t2 rfl, t3⟩
          cases ho : hlA W f (nI t) x2 k with
          | none =>
            rw [ho] at nx upd take
            rw [if_neg (show ¬ fwF none ≤ bcF (nI (k + 1)) by
              rw [jb2]
              show ¬ (2147483647 : Int32) ≤ nI jb
              rw [Int32.le_iff_toInt_le, nI_toInt (by omega), show (2147483647 : Int32).toInt = 2147483647 from by decide]
              omega), c_Main_holds_79 (hset p2), g_Main_holds_82]
            by_cases c2 : boF W f (nI (k + 1)) < x2
            · rw [if_pos c2, nI_1]; exact upd c2
            · rw [if_neg c2] at nx ⊢
              exact take _ nx
          | some s =>
            rw [ho] at nx upd take
            by_cases c3 : bcF (nI s) ≤ bcF (nI (k + 1))
            · rw [if_pos (show fwF (some s) ≤ bcF (nI (k + 1)) from c3)]
              by_cases c2 : boF W f (nI (k + 1)) < x2
              · exact upd c2
              · rw [if_neg c2] at nx
                dsimp only at nx
                rw [if_pos c3] at nx
                rw [ho] at p3
                exact nx ρ ⟨p1, p2, p3⟩
            · rw [if_neg (show ¬ fwF (some s) ≤ bcF (nI (k + 1)) from c3), c_Main_holds_79 (hset p2), g_Main_holds_82]
              by_cases c2 : boF W f (nI (k + 1)) < x2
              · rw [if_pos c2, nI_1]; exact upd c2
              · rw [if_neg c2] at nx ⊢
                dsimp only at nx
                rw [if_neg c3] at nx
                exact take _ nx
        · rw [if_neg c1] at nx ⊢
          exact nx ρ ⟨p1, p2, p3⟩
      · rintro ρ ⟨p1, p2, p3⟩
        show RnI (ev (d + 10) 255 48 [(0, .ref 0), (1, .int x1), (2, .int x2), (3, .int (nI t)), (4, .int (fwF (hlA W f (nI t) x2 t))), (5, .int (nI (t + 1)))] [] (mkH ρ)) _
        rw [g_Main_holds_48, if_pos (nI_lt (by omega) (by omega)), m2]
        rcases hl_c (W := W) (f := f) (A := nI t) (v := x2) (k := t) with e | ⟨s, s1, e⟩
        · rw [e] at p3 ⊢
          rw [if_pos (show fwF none = 2147483647 from rfl)]
          exact RnI.mk ⟨p1, rfl, p3⟩
        · rw [e] at p3 ⊢
          obtain ⟨jb, jb1, jb2⟩ := bc_n (m := s) (by omega)
          have hne : ¬ fwF (some s) = 2147483647 := by
            show ¬ bcF (nI s) = 2147483647
            rw [jb2]
            intro z
            have := congrArg Int32.toInt z
            rw [nI_toInt (by omega), show (2147483647 : Int32).toInt = 2147483647 from by decide] at this
            omega
          rw [if_neg hne]
          exact RnI.mk ⟨p1, rfl, p3⟩
theorem M_holds (hd : 400 ≤ d) (h : MWo W f σ) : RnI (ev d 96 0 [(0, .ref 50), (1, .int x1), (2, .int x2)] [] (mkH σ)) (fun τ x => Ag kQm σ τ ∧ x = (hlS x1 x2 W f).1 ∧ MDx σ τ (hlS x1 x2 W f).2) := by
  obtain ⟨d, rfl⟩ : ∃ e, d = e + 10 := ⟨d - 10, by omega⟩
  have w4 := h.1.1
  unfold hlS
  have h1 : MWo W f (uI σ 3210 0) := h.nu rfl
  have a0 : Ag kQm σ (uI σ 3210 0) := Ag.I Ag.rf rfl
  rw [g_Model_holds_0, c_Model_holds_7 (N_isB h1.1 h1.2.2.1), g_Model_holds_10]
  cases hx : ax_ix x1 (wb W) with
  | false => rw [cond_false, if_pos rfl, m1]; exact RnI.mk ⟨a0, rfl, rfl, rfl⟩
  | true =>
    rw [cond_true, if_neg (by decide), c_Model_holds_17 N_inF, g_Model_holds_20, cond_true]
    by_cases hi : inF x2 1 99 = 0
    · rw [if_pos hi, if_pos hi, m1]; exact RnI.mk ⟨a0, rfl, rfl, rfl⟩
    · obtain ⟨a, a1, a2⟩ := bits_nat h.1.2.1 (fun p => f (16 + p) == x1)
      obtain ⟨a', a1', a2'⟩ := bits_nat h.1.2.1 (fun p => !(f (25 + p) == 0))
      have eA : abF W f x1 &&& awF W f = nI (a &&& a') := by
        show bitsF (wp W) _ &&& bitsF (wp W) _ = _
        rw [a2, a2', and_nI]
      have hA : a &&& a' < 512 := Nat.lt_of_le_of_lt Nat.and_le_left a1
      have hset : ∀ {ρ : Sg} {x : Int32}, MWo W f ρ → ev (d + 9) 89 0 [(0, .ref 50), (1, .int x)] [] (mkH ρ) = rI ρ (boF W f x) := fun hm => N_set hm.2.2.1 hm.1 hm.2.2.2.1
      rw [if_neg hi, if_neg hi, c_Model_holds_31 (N_aboard (v := false) h1.1 h1.2.2.1 h1.2.2.2.1), g_Model_holds_34, c_Model_holds_39 (N_awake (v := false) h1.1 h1.2.2.1 h1.2.1 h1.2.2.2.1), g_Model_holds_42, eA, cln (n := a &&& a') (by omega), m1]
      generalize (a &&& a') = t at hA
      refine lpG (α := Sg) (n := t) (P := fun k ρ => ρ = uI σ 3210 0)
        (f := fun k ρ => ev (d + 10) 96 50 [(0, .ref 50), (1, .int x1), (2, .int x2), (3, .int (nI t)), (4, .int (fdF (hlA W f (nI t) x2 k))), (5, .int (nI (k + 1)))] [] (mkH ρ)) (Q := fun o => RnI o _) ?_ ?_ t 0 (uI σ 3210 0) (by omega) rfl
      · rintro k ρ hk rfl nx
        show RnI (ev (d + 10) 96 50 [(0, .ref 50), (1, .int x1), (2, .int x2), (3, .int (nI t)), (4, .int (fdF (hlA W f (nI t) x2 k))), (5, .int (nI (k + 1)))] [] (mkH (uI σ 3210 0))) _
        have nx := nx _ rfl
        have ee : hlA W f (nI t) x2 (k + 1) = hlG W f (nI t) x2 k (hlA W f (nI t) x2 k) := rfl
        have nx : RnI (ev (d + 10) 96 50 [(0, .ref 50), (1, .int x1), (2, .int x2), (3, .int (nI t)), (4, .int (fdF (hlA W f (nI t) x2 (k + 1)))), (5, .int (nI (k + 1 + 1)))] [] (mkH (uI σ 3210 0))) _ := nx
        rw [ee] at nx
        unfold hlG at nx
        rw [g_Model_holds_50, if_neg (nI_nlt (by omega) (by omega)), m1, nI_1]
        by_cases c1 : nI (k + 1) &&& (nI t ^^^ -1) = 0
        · rw [if_pos c1] at nx
          rw [if_pos c1, c_Model_holds_68 (hset h1), g_Model_holds_71, m1, nI_1]
          by_cases c2 : boF W f (nI (k + 1)) < x2
          · rw [if_pos c2] at nx
            rw [if_neg (Int32.not_le.mpr c2)]
            exact nx
          · rw [if_neg c2] at nx
            rw [if_pos (Int32.not_lt.mp c2)]
            rcases hl_c (W := W) (f := f) (A := nI t) (v := x2) (k := k) with e | ⟨s, s1, e⟩
            · rw [e] at nx ⊢
              rw [if_pos (show fdF none = -1 from rfl)]
              exact nx
            · rw [e] at nx ⊢
              dsimp only at nx
              rw [if_neg (show ¬ fdF (some s) = -1 from nI_nm1 (by omega)), c_Model_holds_86 bc_ev, g_Model_holds_89, c_Model_holds_91 bc_ev, g_Model_holds_94, nI_1]
              by_cases c3 : bcF (nI s) ≤ bcF (nI (k + 1))
              · rw [if_pos c3] at nx
                rw [if_pos (show bcF (fdF (some s)) ≤ bcF (nI (k + 1)) from c3)]
                exact nx
              · rw [if_neg c3] at nx
                rw [if_neg (show ¬ bcF (fdF (some s)) ≤ bcF (nI (k + 1)) from c3)]
                exact nx
        · rw [if_neg c1] at nx ⊢
          exact nx
      · rintro ρ rfl
        show RnI (ev (d + 10) 96 50 [(0, .ref 50), (1, .int x1), (2, .int x2), (3, .int (nI t)), (4, .int (fdF (hlA W f (nI t) x2 t))), (5, .int (nI (t + 1)))] [] (mkH (uI σ 3210 0))) _
        rw [g_Model_holds_50, if_pos (nI_lt (by omega) (by omega)), m1, m2]
        rcases hl_c (W := W) (f := f) (A := nI t) (v := x2) (k := t) with e | ⟨s, s1, e⟩
        · rw [e, if_pos (show fdF none = -1 from rfl)]
          exact RnI.mk ⟨a0, rfl, rfl, rfl⟩
        · obtain ⟨ρ2, t1, t2, t3⟩ := N_tell1 (d := d + 8) (σ := uI σ 3210 0) (x := (nI s).toInt64)
          rw [e, if_neg (show ¬ fdF (some s) = -1 from nI_nm1 (by omega)), c_Model_holds_125 (show ev (d + 9) 13 0 [(0, .ref 50), (1, .long (Int32.toInt64 (fdF (some s))))] [] _ = _ from t1), g_Model_holds_128, c_Model_holds_130 bc_ev, g_Model_holds_133]
          exact RnI.mk ⟨a0.tr (t2.wk rfl), rfl, t3⟩
end Q6
theorem op_evens : Op_evens 400 INV := fun d hd k σ _ h => q_op evS (fun W f hW _ => by show 2 ≤ 9; decide) (fun d σ W f hd h => C_evens hd h) (fun d σ W f hd h => M_evens hd h) hd h
theorem op_holds : Op_holds 400 INV := fun d hd k σ a1 a2 _ h => q_op (hlS a1 a2) (fun W f hW _ => by
  unfold hlS
  cases ax_ix a1 (wb W)
  · exact True.intro
  · rw [cond_true]; split
    · exact True.intro
    · split
      · exact True.intro
      · show 1 ≤ 9
        decide) (fun d σ W f hd h => C_holds hd h) (fun d σ W f hd h => M_holds hd h) hd h
