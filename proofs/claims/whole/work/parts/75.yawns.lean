/-! A question: yawns -/
theorem or_nI {a b : Nat} : nI a ||| nI b = nI (a ||| b) := Int32.toBitVec_inj.mp (by
  show BitVec.ofNat 32 a ||| BitVec.ofNat 32 b = BitVec.ofNat 32 (a ||| b)
  exact BitVec.ofNat_or.symm)
theorem shl_tab : ∀ p, p < 9 → (1 : Int32) <<< (nI p &&& 31) = nI (2 ^ p) := by decide +kernel
theorem hs_tab : ∀ m, m < 512 → ∀ q, q < 9 → hsF (nI m) q = Nat.testBit m q := by decide +kernel
theorem tb_hi {m i : Nat} (hm : m < 512) (hi : 9 ≤ i) : Nat.testBit m i = false := Nat.testBit_lt_two_pow (Nat.lt_of_lt_of_le (show m < 2 ^ 9 from hm) (Nat.pow_le_pow_right (by decide) hi))
noncomputable def yset (P : Nat → Bool) : Nat := Classical.choose (mask_ex 9 P)
theorem yset_lt {P : Nat → Bool} : yset P < 512 := (Classical.choose_spec (mask_ex 9 P)).1
theorem yset_b {P : Nat → Bool} {i : Nat} (hi : i < 9) : Nat.testBit (yset P) i = P i := ((Classical.choose_spec (mask_ex 9 P)).2 i hi).symm
theorem yset_eq {P : Nat → Bool} {m : Nat} (hm : m < 512) (h : ∀ i, i < 9 → Nat.testBit m i = P i) : m = yset P := by
  refine Nat.eq_of_testBit_eq (fun i => ?_)
  by_cases hi : i < 9
  · rw [h i hi, yset_b hi]
  · rw [tb_hi hm (by omega), tb_hi yset_lt (by omega)]
def anF (P : Nat → Bool) : Nat → Bool
  | 0 => false
  | n + 1 => anF P n || P n
theorem an_congr {P Q : Nat → Bool} : ∀ n, (∀ i, i < n → P i = Q i) → anF P n = anF Q n
  | 0, _ => rfl
  | n + 1, h => by
    show (anF P n || P n) = (anF Q n || Q n)
    rw [an_congr n (fun i hi => h i (by omega)), h n (by omega)]
theorem or_bit {m p i : Nat} : Nat.testBit (m ||| 2 ^ p) i = (Nat.testBit m i || decide (i = p)) := by
  rw [Nat.testBit_or, Nat.testBit_two_pow]
  congr 1
  by_cases h : p = i
  · rw [decide_eq_true h, decide_eq_true h.symm]
  · rw [decide_eq_false h, decide_eq_false (fun z => h z.symm)]
theorem or_lt {m p : Nat} (hm : m < 512) (hp : p < 9) : m ||| 2 ^ p < 512 := Nat.or_lt_two_pow (n := 9) hm (by
  show 2 ^ p < 2 ^ 9
  exact Nat.pow_lt_pow_right (by decide) hp)
section YA
variable {d : Nat} {σ : Sg} {W : Wd} {f g : Nat → Int32} {x1 x2 : Int32}
def ncF (f : Nat → Int32) (v : Int32) (p q : Nat) : Bool := decide (asF (f (Int32.toNatClampNeg (f (16 + p))) - f (Int32.toNatClampNeg (f (16 + q)))) ≤ v)
theorem nc_sym (hW : WO W) (ho : OK W f) {v : Int32} {p q : Nat} (hp : p < wp W) (hq : q < wp W) : ncF f v p q = ncF f v q p := by
  have w30 := hW.2.2.2.1
  obtain ⟨a, a1, a2, a3⟩ := ix_of (ho.1 _ (ix_lt (ho.2 p hp).1)).1
  obtain ⟨b, b1, b2, b3⟩ := ix_of (ho.1 _ (ix_lt (ho.2 q hq).1)).1
  unfold ncF
  rw [a3, b3, as_sym (by omega) (by omega)]
/-- who yawn next -/
def ynP (W : Wd) (f : Nat → Int32) (v : Int32) (m i : Nat) : Bool := Nat.testBit m i || (decide (i < wp W) && anF (fun q => Nat.testBit m q && ncF f v i q) (wp W))
noncomputable def ynF (W : Wd) (f : Nat → Int32) (v : Int32) (m : Nat) : Nat := yset (ynP W f v m)
theorem F_near (hW : WO W) (ho : OK W f) (hf : FR W false σ f) (hc : CW W false σ) {v : Int32} {m : Nat} (hm : m < 512) : ev (d + 3) 156 0 [(0, .ref 5), (1, .int (nI m)), (2, .int v)] [] (mkH σ) = rI σ (nI (ynF W f v m)) := by
  have w9 := hW.2.1
  have w4 := hW.1
  have key : RnI (ev (d + 3) 156 0 [(0, .ref (fo false)), (1, .int (nI m)), (2, .int v)] [] (mkH σ)) (fun τ x => τ = σ ∧ x = nI (ynF W f v m)) := by
    rw [g_Fleet_whoAreNear_0]
    refine lpG (α := Nat) (n := wp W) (P := fun k r => r < 512 ∧ ∀ i, i < 9 → Nat.testBit r i = (Nat.testBit m i || (decide (i < k) && anF (fun q => Nat.testBit m q && ncF f v i q) (wp W))))
      (f := fun k r => ev (d + 3) 156 5 [(0, .ref (fo false)), (1, .int (nI m)), (2, .int v), (3, .int (nI r)), (4, .int (nI k))] [] (mkH σ)) (Q := fun o => RnI o _) ?_ ?_ (wp W) 0 m (by omega) ⟨hm, fun i hi => by rw [decide_eq_false (Nat.not_lt_zero i), Bool.false_and, Bool.or_false]⟩
    · rintro k r hk ⟨p1, p2⟩ nx
      show RnI (ev (d + 3) 156 5 [(0, .ref (fo false)), (1, .int (nI m)), (2, .int v), (3, .int (nI r)), (4, .int (nI k))] [] (mkH σ)) _
      rw [g_Fleet_whoAreNear_5, hc.2.1, if_neg (nI_ge hk (by omega))]
      refine lpG (α := Nat) (n := wp W) (P := fun j r => r < 512 ∧ ∀ i, i < 9 → Nat.testBit r i = ((Nat.testBit m i || (decide (i < k) && anF (fun q => Nat.testBit m q && ncF f v i q) (wp W))) || (decide (i = k) && anF (fun q => Nat.testBit m q && ncF f v i q) j)))
        (f := fun j r => ev (d + 3) 156 17 [(0, .ref (fo false)), (1, .int (nI m)), (2, .int v), (3, .int (nI r)), (4, .int (nI k)), (5, .int (nI j))] [] (mkH σ)) (Q := fun o => RnI o _) ?_ ?_ (wp W) 0 r (by omega) ⟨p1, fun i hi => by rw [p2 i hi]; show _ = (_ || (decide (i = k) && false)); rw [Bool.and_false, Bool.or_false]⟩
      · rintro j r hj ⟨r1, r2⟩ nx2
        show RnI (ev (d + 3) 156 17 [(0, .ref (fo false)), (1, .int (nI m)), (2, .int v), (3, .int (nI r)), (4, .int (nI k)), (5, .int (nI j))] [] (mkH σ)) _
        have hh := hs_tab m hm j (by omega)
        unfold hsF at hh
        rw [g_Fleet_whoAreNear_17, hc.2.1, if_neg (nI_ge hj (by omega)), nI_1]
        have no : (Nat.testBit m j && ncF f v k j) = false → RnI (ev (d + 3) 156 17 [(0, .ref (fo false)), (1, .int (nI m)), (2, .int v), (3, .int (nI r)), (4, .int (nI k)), (5, .int (nI (j + 1)))] [] (mkH σ)) (fun τ x => τ = σ ∧ x = nI (ynF W f v m)) := by
          intro hz
          refine nx2 r ⟨r1, fun i hi => ?_⟩
          rw [r2 i hi]
          show _ = (_ || (decide (i = k) && (anF (fun q => Nat.testBit m q && ncF f v i q) j || (Nat.testBit m j && ncF f v i j))))
          by_cases e : i = k
          · rw [e, hz, Bool.or_false]
          · rw [decide_eq_false e]; rfl
        by_cases c1 : (nI m >>> (nI j &&& 31)) &&& 1 = 1
        · rw [beq_t c1] at hh
          obtain ⟨p, q1, q2, q3⟩ := ix_of (ho.2 k hk).1
          obtain ⟨b, b1, b2, b3⟩ := ix_of (ho.2 j hj).1
          rw [if_pos c1, ixn (k := k) (by omega) (by decide), cond_true, ixn (k := j) (by omega) (by decide), cond_true, cln (n := k) (by omega), cln (n := j) (by omega), (hf.2.1 k hk).1, (hf.2.1 j hj).1, q3, b3, c_Fleet_whoAreNear_51 (F_apart (w := false) (by omega) (by omega)), g_Fleet_whoAreNear_54, (hf.1 p q1).1, (hf.1 b b1).1, shl_tab k (by omega), or_nI, nI_1]
          have en : ncF f v k j = decide (asF (f p - f b) ≤ v) := by unfold ncF; rw [q3, b3, cln q2, cln b2]
          by_cases c2 : v < asF (f p - f b)
          · rw [if_pos c2]
            exact no (by rw [en, decide_eq_false (Int32.not_le.mpr c2), Bool.and_false])
          · rw [if_neg c2]
            refine nx2 (r ||| 2 ^ k) ⟨or_lt r1 (by omega), fun i hi => ?_⟩
            rw [or_bit, r2 i hi]
            show _ = (_ || (decide (i = k) && (anF (fun q => Nat.testBit m q && ncF f v i q) j || (Nat.testBit m j && ncF f v i j))))
            by_cases e : i = k
            · rw [e, ← hh, en, decide_eq_true (Int32.not_lt.mp c2), decide_eq_true rfl, Bool.and_self, Bool.or_true, Bool.or_true, Bool.and_self, Bool.or_true]
            · rw [decide_eq_false e, Bool.or_false]; rfl
        · rw [beq_f c1] at hh
          rw [if_neg c1]
          exact no (by rw [← hh, Bool.false_and])
      · rintro r ⟨r1, r2⟩
        show RnI (ev (d + 3) 156 17 [(0, .ref (fo false)), (1, .int (nI m)), (2, .int v), (3, .int (nI r)), (4, .int (nI k)), (5, .int (nI (wp W)))] [] (mkH σ)) _
        rw [g_Fleet_whoAreNear_17, hc.2.1, if_pos (nI_le (Nat.le_refl _) (by omega)), nI_1]
        refine nx r ⟨r1, fun i hi => ?_⟩
        rw [r2 i hi]
        by_cases e : i = k
        · rw [e, decide_eq_false (Nat.lt_irrefl k), decide_eq_true rfl, decide_eq_true (Nat.lt_succ_self k), Bool.false_and, Bool.or_false]
        · rw [decide_eq_false e, Bool.false_and, Bool.or_false]
          by_cases e2 : i < k
          · rw [decide_eq_true e2, decide_eq_true (by omega)]
          · rw [decide_eq_false e2, decide_eq_false (by omega)]
    · rintro r ⟨r1, r2⟩
      show RnI (ev (d + 3) 156 5 [(0, .ref (fo false)), (1, .int (nI m)), (2, .int v), (3, .int (nI r)), (4, .int (nI (wp W)))] [] (mkH σ)) _
      rw [g_Fleet_whoAreNear_5, hc.2.1, if_pos (nI_le (Nat.le_refl _) (by omega))]
      exact RnI.mk ⟨rfl, by rw [yset_eq (P := ynP W f v m) r1 r2]; rfl⟩
  obtain ⟨τ, x, k1, rfl, rfl⟩ := key
  exact k1
noncomputable def yaM (W : Wd) (f : Nat → Int32) (v : Int32) (m : Nat) : Nat → Nat
  | 0 => m
  | k + 1 => ynF W f v (yaM W f v m k)
noncomputable def yaC (W : Wd) (f : Nat → Int32) (v : Int32) (m : Nat) : Nat → Nat
  | 0 => 0
  | k + 1 => if yaM W f v m (k + 1) = yaM W f v m k then yaC W f v m k else yaC W f v m k + 1
theorem ya_lt {v : Int32} {m : Nat} (hm : m < 512) : ∀ k, yaM W f v m k < 512
  | 0 => hm
  | _ + 1 => yset_lt
theorem yc_le {v : Int32} {m : Nat} : ∀ k, yaC W f v m k ≤ k
  | 0 => Nat.le_refl 0
  | k + 1 => by
    show (if yaM W f v m (k + 1) = yaM W f v m k then yaC W f v m k else yaC W f v m k + 1) ≤ k + 1
    have h0 : yaC W f v m k ≤ k := yc_le k
    split <;> omega
noncomputable def yaS (x1 x2 : Int32) (W : Wd) (f : Nat → Int32) : Int32 × Option (List Int64) := bif ax_ix x1 (wp W) then (if inF x2 0 30 = 0 then (-1, none) else (nI (yaM W f x2 (2 ^ Int32.toNatClampNeg x1) (wp W)), some [(nI (yaC W f x2 (2 ^ Int32.toNatClampNeg x1) (wp W))).toInt64])) else (-1, none)
theorem p_lt {p : Nat} (hp : p < 9) : 2 ^ p < 512 := by
  show 2 ^ p < 2 ^ 9
  exact Nat.pow_lt_pow_right (by decide) hp
theorem C_yawns (hd : 400 ≤ d) (h : CWo W f σ) : RnI (ev d 258 0 [(0, .ref 0), (1, .int x1), (2, .int x2)] [] (mkH σ)) (fun τ x => Ag kQc σ τ ∧ x = (yaS x1 x2 W f).1 ∧ TDx σ τ (yaS x1 x2 W f).2) := by
  obtain ⟨d, rfl⟩ : ∃ e, d = e + 10 := ⟨d - 10, by omega⟩
  have w9 := h.1.2.1
  unfold yaS
  rw [g_Main_yawns_0, c_Main_yawns_5 (F_hasP (w := false) h.2.2.1.2.1 (by omega)), g_Main_yawns_8]
  cases hx : ax_ix x1 (wp W) with
  | false => rw [cond_false, if_pos rfl, m1]; exact RnI.mk ⟨Ag.rf, rfl, rfl, rfl⟩
  | true =>
    rw [cond_true, if_neg (by decide), c_Main_yawns_15 K_in, g_Main_yawns_18, cond_true]
    by_cases hi : inF x2 0 30 = 0
    · rw [if_pos hi, if_pos hi, m1]; exact RnI.mk ⟨Ag.rf, rfl, rfl, rfl⟩
    · obtain ⟨p, p1, p2, rfl⟩ := ix_of hx
      rw [if_neg hi, if_neg hi, shl_tab p (by omega), cln (n := p) (by omega)]
      have hlt := ya_lt (W := W) (f := f) (v := x2) (p_lt (p := p) (by omega))
      refine lpG (α := Unit) (n := wp W) (P := fun k _ => True)
        (f := fun k _ => ev (d + 10) 258 33 [(0, .ref 0), (1, .int (nI p)), (2, .int x2), (3, .int (nI (yaM W f x2 (2 ^ p) k))), (4, .int (nI (yaC W f x2 (2 ^ p) k))), (5, .int (nI k))] [] (mkH σ)) (Q := fun o => RnI o _) ?_ ?_ (wp W) 0 () (by omega) True.intro
      · rintro k _ hk _ nx
        show RnI (ev (d + 10) 258 33 [(0, .ref 0), (1, .int (nI p)), (2, .int x2), (3, .int (nI (yaM W f x2 (2 ^ p) k))), (4, .int (nI (yaC W f x2 (2 ^ p) k))), (5, .int (nI k))] [] (mkH σ)) _
        have nx : RnI (ev (d + 10) 258 33 [(0, .ref 0), (1, .int (nI p)), (2, .int x2), (3, .int (nI (yaM W f x2 (2 ^ p) (k + 1)))), (4, .int (nI (yaC W f x2 (2 ^ p) (k + 1)))), (5, .int (nI (k + 1)))] [] (mkH σ)) _ := nx () True.intro
        have ec : yaC W f x2 (2 ^ p) (k + 1) = if yaM W f x2 (2 ^ p) (k + 1) = yaM W f x2 (2 ^ p) k then yaC W f x2 (2 ^ p) k else yaC W f x2 (2 ^ p) k + 1 := rfl
        have em : ynF W f x2 (yaM W f x2 (2 ^ p) k) = yaM W f x2 (2 ^ p) (k + 1) := rfl
        have h1 := hlt k
        have h2 := hlt (k + 1)
        rw [g_Main_yawns_33, show sI σ 334 = nI (wp W) from h.2.2.1.2.1, if_neg (nI_ge hk (by omega)), c_Main_yawns_51 (F_near h.1 h.2.1 h.2.2.2.2.1 h.2.2.1 h1), g_Main_yawns_54, em, nI_1]
        by_cases c : yaM W f x2 (2 ^ p) (k + 1) = yaM W f x2 (2 ^ p) k
        · rw [if_pos c] at ec
          rw [ec] at nx
          rw [if_pos (by rw [c]), Int32.add_zero]
          exact nx
        · rw [if_neg c] at ec
          rw [ec] at nx
          rw [if_neg (fun z => c ((nI_eq (by omega) (by omega)).mp z)), nI_1]
          exact nx
      · rintro _ _
        show RnI (ev (d + 10) 258 33 [(0, .ref 0), (1, .int (nI p)), (2, .int x2), (3, .int (nI (yaM W f x2 (2 ^ p) (wp W)))), (4, .int (nI (yaC W f x2 (2 ^ p) (wp W)))), (5, .int (nI (wp W)))] [] (mkH σ)) _
        obtain ⟨ρ, t1, t2, t3⟩ := T_one (d := d + 7) (σ := σ) (x := (nI (yaC W f x2 (2 ^ p) (wp W))).toInt64)
        rw [g_Main_yawns_33, show sI σ 334 = nI (wp W) from h.2.2.1.2.1, if_pos (nI_le (Nat.le_refl _) (by omega)), c_Main_yawns_88 t1, g_Main_yawns_91]
        exact RnI.mk ⟨t2.wk rfl, rfl, t3⟩
/-! the reference goes on until nobody new yawns -/
def cdF (P : Nat → Bool) : Nat → Nat
  | 0 => 0
  | n + 1 => cdF P n + (P n).toNat
theorem cd_le {P : Nat → Bool} : ∀ n, cdF P n ≤ n
  | 0 => Nat.le_refl 0
  | n + 1 => by
    have h0 : cdF P n ≤ n := cd_le n
    have := Bool.toNat_le (P n)
    show cdF P n + (P n).toNat ≤ n + 1
    omega
theorem cd_mono {P Q : Nat → Bool} : ∀ n, (∀ i, i < n → P i = true → Q i = true) → cdF P n ≤ cdF Q n
  | 0, _ => Nat.le_refl 0
  | n + 1, h => by
    have h0 := cd_mono n (fun i hi => h i (by omega))
    show cdF P n + (P n).toNat ≤ cdF Q n + (Q n).toNat
    have : (P n).toNat ≤ (Q n).toNat := by
      cases hp : P n
      · exact Nat.zero_le _
      · rw [h n (by omega) hp]; exact Nat.le_refl _
    omega
theorem cd_lt {P Q : Nat → Bool} {j : Nat} (hp : P j = false) (hq : Q j = true) : ∀ n, j < n → (∀ i, i < n → P i = true → Q i = true) → cdF P n < cdF Q n
  | 0, hj, _ => absurd hj (Nat.not_lt_zero j)
  | n + 1, hj, h => by
    show cdF P n + (P n).toNat < cdF Q n + (Q n).toNat
    by_cases e : j = n
    · subst e
      have h0 := cd_mono j (fun i hi => h i (by omega))
      rw [hp, hq]
      show cdF P j + 0 < cdF Q j + 1
      omega
    · have h0 := cd_lt hp hq n (by omega) (fun i hi => h i (by omega))
      have : (P n).toNat ≤ (Q n).toNat := by
        cases hpn : P n
        · exact Nat.zero_le _
        · rw [h n (by omega) hpn]; exact Nat.le_refl _
      omega
theorem yn_sub {v : Int32} {m i : Nat} (hi : i < 9) (h : Nat.testBit m i = true) : Nat.testBit (ynF W f v m) i = true := by
  unfold ynF
  rw [yset_b hi]
  unfold ynP
  rw [h, Bool.true_or]
theorem ya_in (hW : WO W) {v : Int32} {m : Nat} (hm : ∀ i, wp W ≤ i → Nat.testBit m i = false) : ∀ k i, wp W ≤ i → Nat.testBit (yaM W f v m k) i = false
  | 0, i, hi => hm i hi
  | k + 1, i, hi => by
    show Nat.testBit (ynF W f v (yaM W f v m k)) i = false
    unfold ynF
    by_cases h9 : i < 9
    · rw [yset_b h9]
      unfold ynP
      rw [ya_in hW hm k i hi, decide_eq_false (by omega), Bool.false_and, Bool.or_false]
    · exact tb_hi yset_lt (by omega)
theorem ya_card (hW : WO W) {v : Int32} {p : Nat} (hp : p < wp W) : ∀ k, (∀ j, j < k → ¬ yaM W f v (2 ^ p) (j + 1) = yaM W f v (2 ^ p) j) → k + 1 ≤ cdF (Nat.testBit (yaM W f v (2 ^ p) k)) (wp W)
  | 0, _ => by
    show 1 ≤ cdF (Nat.testBit (2 ^ p)) (wp W)
    have h1 : cdF (fun _ => false) (wp W) < cdF (Nat.testBit (2 ^ p)) (wp W) := cd_lt (j := p) rfl (by rw [Nat.testBit_two_pow]; exact decide_eq_true rfl) (wp W) hp (fun i _ hz => by cases hz)
    omega
  | k + 1, h => by
    have w9 := hW.2.1
    have ih := ya_card hW hp k (fun j hj => h j (by omega))
    have hne := h k (by omega)
    have hin := ya_in (f := f) (v := v) hW (m := 2 ^ p) (fun i hi => by rw [Nat.testBit_two_pow]; exact decide_eq_false (by omega))
    have hlt := ya_lt (W := W) (f := f) (v := v) (p_lt (p := p) (by omega))
    have hsub : ∀ i, i < wp W → Nat.testBit (yaM W f v (2 ^ p) k) i = true → Nat.testBit (yaM W f v (2 ^ p) (k + 1)) i = true := fun i hi hz => yn_sub (by omega) hz
    have hex : ∃ j, j < wp W ∧ Nat.testBit (yaM W f v (2 ^ p) k) j = false ∧ Nat.testBit (yaM W f v (2 ^ p) (k + 1)) j = true := by
      refine Classical.byContradiction (fun hno => hne (Nat.eq_of_testBit_eq (fun i => ?_)))
      by_cases hi : i < wp W
      · cases h1 : Nat.testBit (yaM W f v (2 ^ p) k) i with
        | true => rw [hsub i hi h1]
        | false =>
          cases h2 : Nat.testBit (yaM W f v (2 ^ p) (k + 1)) i with
          | false => rfl
          | true => exact absurd ⟨i, hi, h1, h2⟩ hno
      · rw [hin (k + 1) i (by omega), hin k i (by omega)]
    obtain ⟨j, j1, j2, j3⟩ := hex
    have := cd_lt j2 j3 (wp W) j1 hsub
    omega
theorem ya_stay {v : Int32} {m K : Nat} (h : yaM W f v m (K + 1) = yaM W f v m K) : ∀ j, yaM W f v m (K + j) = yaM W f v m K ∧ yaC W f v m (K + j) = yaC W f v m K
  | 0 => ⟨rfl, rfl⟩
  | j + 1 => by
    obtain ⟨h1, h2⟩ := ya_stay h j
    have e : yaM W f v m (K + (j + 1)) = yaM W f v m K := by
      show ynF W f v (yaM W f v m (K + j)) = _
      rw [h1]; exact h
    refine ⟨e, ?_⟩
    show (if yaM W f v m (K + j + 1) = yaM W f v m (K + j) then yaC W f v m (K + j) else yaC W f v m (K + j) + 1) = _
    rw [if_pos (by rw [h1]; exact e), h2]
theorem N_cellOf (h : MWo W f σ) {p : Nat} (hp : p < wp W) : ev (d + 1) 99 0 [(0, .ref 50), (1, .int (nI p))] [] (mkH σ) = rI σ (f (Int32.toNatClampNeg (f (16 + p)))) := by
  have w9 := h.1.2.1
  have w4 := h.1.1
  have hx := (h.2.1.2 p hp).1
  rw [g_Model_cellOf_0, add16, ixn (k := 16 + p) (by omega) (by decide), cond_true, cln (n := 16 + p) (by omega), (h.2.2.2.1.2.1 p hp).1, ix_mono hx (by omega) (by decide), cond_true, (h.2.2.2.1.1 _ (ix_lt hx)).1]
theorem N_ya1 (h : MWo W f σ) {v : Int32} {m : Nat} (hm : m < 512) {x1 x4 x5 : Int32} {Q : Sg → Int32 → Prop}
    (next : RnI (ev (d + 10) 100 46 [(0, .ref 50), (1, .int x1), (2, .int v), (3, .int (nI m)), (4, .int x4), (5, .int x5), (6, .int (nI (ynF W f v m))), (7, .int (nI (wp W)))] [] (mkH σ)) Q) :
    RnI (ev (d + 10) 100 46 [(0, .ref 50), (1, .int x1), (2, .int v), (3, .int (nI m)), (4, .int x4), (5, .int x5), (6, .int (nI m)), (7, .int 0)] [] (mkH σ)) Q := by
  have w9 := h.1.2.1
  refine lpG (α := Nat) (n := wp W) (P := fun k r => r < 512 ∧ ∀ i, i < 9 → Nat.testBit r i = (Nat.testBit m i || (decide (i < wp W) && anF (fun a => Nat.testBit m a && ncF f v a i) k)))
    (f := fun k r => ev (d + 10) 100 46 [(0, .ref 50), (1, .int x1), (2, .int v), (3, .int (nI m)), (4, .int x4), (5, .int x5), (6, .int (nI r)), (7, .int (nI k))] [] (mkH σ)) (Q := fun o => RnI o _) ?_ ?_ (wp W) 0 m (by omega) ⟨hm, fun i hi => by show _ = (_ || (decide (i < wp W) && false)); rw [Bool.and_false, Bool.or_false]⟩
  · rintro k r hk ⟨p1, p2⟩ nx
    show RnI (ev (d + 10) 100 46 [(0, .ref 50), (1, .int x1), (2, .int v), (3, .int (nI m)), (4, .int x4), (5, .int x5), (6, .int (nI r)), (7, .int (nI k))] [] (mkH σ)) _
    rw [g_Model_yawns_46, h.2.2.1.2.1, if_neg (nI_ge hk (by omega))]
    refine lpG (α := Nat) (n := wp W) (P := fun j r => r < 512 ∧ ∀ i, i < 9 → Nat.testBit r i = ((Nat.testBit m i || (decide (i < wp W) && anF (fun a => Nat.testBit m a && ncF f v a i) k)) || (decide (i < j) && (Nat.testBit m k && ncF f v k i))))
      (f := fun j r => ev (d + 10) 100 58 [(0, .ref 50), (1, .int x1), (2, .int v), (3, .int (nI m)), (4, .int x4), (5, .int x5), (6, .int (nI r)), (7, .int (nI k)), (8, .int (nI j))] [] (mkH σ)) (Q := fun o => RnI o _) ?_ ?_ (wp W) 0 r (by omega) ⟨p1, fun i hi => by rw [p2 i hi, decide_eq_false (Nat.not_lt_zero i), Bool.false_and, Bool.or_false]⟩
    · rintro j r hj ⟨r1, r2⟩ nx2
      show RnI (ev (d + 10) 100 58 [(0, .ref 50), (1, .int x1), (2, .int v), (3, .int (nI m)), (4, .int x4), (5, .int x5), (6, .int (nI r)), (7, .int (nI k)), (8, .int (nI j))] [] (mkH σ)) _
      have hh : ev (d + 9) 11 0 [(0, .int (nI m)), (1, .int (nI k))] [] (mkH σ) = rI σ (bif Nat.testBit m k then 1 else 0) := by
        rw [← hs_tab m hm k (by omega), g_Model_has_0]
        unfold hsF
        by_cases hq : (nI m >>> (nI k &&& 31)) &&& 1 = 1
        · rw [if_pos hq, beq_t hq]; rfl
        · rw [if_neg hq, beq_f hq]; rfl
      have no : (Nat.testBit m k && ncF f v k j) = false → RnI (ev (d + 10) 100 58 [(0, .ref 50), (1, .int x1), (2, .int v), (3, .int (nI m)), (4, .int x4), (5, .int x5), (6, .int (nI r)), (7, .int (nI k)), (8, .int (nI (j + 1)))] [] (mkH σ)) Q := by
        intro hz
        refine nx2 r ⟨r1, fun i hi => ?_⟩
        rw [r2 i hi]
        by_cases e : i = j
        · rw [e, hz, Bool.and_false, Bool.and_false]
        · by_cases e2 : i < j
          · rw [decide_eq_true e2, decide_eq_true (show i < j + 1 by omega)]
          · rw [decide_eq_false e2, decide_eq_false (show ¬ i < j + 1 by omega)]
      rw [g_Model_yawns_58, h.2.2.1.2.1, if_neg (nI_ge hj (by omega)), c_Model_yawns_72 hh, g_Model_yawns_75, nI_1]
      cases hb : Nat.testBit m k with
      | false =>
        rw [cond_false, if_pos rfl, Int32.or_zero]
        exact no (by rw [hb, Bool.false_and])
      | true =>
        rw [cond_true, if_neg (by decide), c_Model_yawns_81 (N_cellOf h hk), g_Model_yawns_84, c_Model_yawns_87 (N_cellOf h hj), g_Model_yawns_90, shl_tab j (by omega), or_nI, Int32.or_zero, nI_1]
        by_cases c2 : v < asF (f (Int32.toNatClampNeg (f (16 + k))) - f (Int32.toNatClampNeg (f (16 + j))))
        · rw [if_pos (show v < (if 0 ≤ f (Int32.toNatClampNeg (f (16 + k))) - f (Int32.toNatClampNeg (f (16 + j))) then f (Int32.toNatClampNeg (f (16 + k))) - f (Int32.toNatClampNeg (f (16 + j))) else 0 - (f (Int32.toNatClampNeg (f (16 + k))) - f (Int32.toNatClampNeg (f (16 + j))))) from c2)]
          exact no (by unfold ncF; rw [decide_eq_false (Int32.not_le.mpr c2), Bool.and_false])
        · rw [if_neg (show ¬ v < (if 0 ≤ f (Int32.toNatClampNeg (f (16 + k))) - f (Int32.toNatClampNeg (f (16 + j))) then f (Int32.toNatClampNeg (f (16 + k))) - f (Int32.toNatClampNeg (f (16 + j))) else 0 - (f (Int32.toNatClampNeg (f (16 + k))) - f (Int32.toNatClampNeg (f (16 + j))))) from c2)]
          refine nx2 (r ||| 2 ^ j) ⟨or_lt r1 (by omega), fun i hi => ?_⟩
          rw [or_bit, r2 i hi]
          by_cases e : i = j
          · have en : ncF f v k j = true := decide_eq_true (Int32.not_lt.mp c2)
            rw [e, decide_eq_true rfl, Bool.or_true, hb, en, decide_eq_true (Nat.lt_succ_self j), Bool.and_self, Bool.and_self, Bool.or_true]
          · rw [decide_eq_false e, Bool.or_false]
            by_cases e2 : i < j
            · rw [decide_eq_true e2, decide_eq_true (show i < j + 1 by omega)]
            · rw [decide_eq_false e2, decide_eq_false (show ¬ i < j + 1 by omega)]
    · rintro r ⟨r1, r2⟩
      show RnI (ev (d + 10) 100 58 [(0, .ref 50), (1, .int x1), (2, .int v), (3, .int (nI m)), (4, .int x4), (5, .int x5), (6, .int (nI r)), (7, .int (nI k)), (8, .int (nI (wp W)))] [] (mkH σ)) _
      rw [g_Model_yawns_58, h.2.2.1.2.1, if_pos (nI_le (Nat.le_refl _) (by omega)), nI_1]
      refine nx r ⟨r1, fun i hi => ?_⟩
      rw [r2 i hi]
      show _ = (_ || (decide (i < wp W) && (anF (fun a => Nat.testBit m a && ncF f v a i) k || (Nat.testBit m k && ncF f v k i))))
      cases decide (i < wp W)
      · rw [Bool.false_and, Bool.false_and, Bool.false_and]; simp
      · rw [Bool.true_and, Bool.true_and, Bool.true_and, Bool.or_assoc]
  · rintro r ⟨r1, r2⟩
    have e : r = ynF W f v m := by
      refine yset_eq (P := ynP W f v m) r1 (fun i hi => ?_)
      rw [r2 i hi]
      unfold ynP
      by_cases hi2 : i < wp W
      · rw [an_congr (wp W) (fun a ha => by rw [nc_sym h.1 h.2.1 ha hi2])]
      · rw [decide_eq_false hi2, Bool.false_and, Bool.false_and]
    rw [e]
    exact next
theorem M_yawns (hd : 400 ≤ d) (h : MWo W f σ) : RnI (ev d 100 0 [(0, .ref 50), (1, .int x1), (2, .int x2)] [] (mkH σ)) (fun τ x => Ag kQm σ τ ∧ x = (yaS x1 x2 W f).1 ∧ MDx σ τ (yaS x1 x2 W f).2) := by
  obtain ⟨d, rfl⟩ : ∃ e, d = e + 10 := ⟨d - 10, by omega⟩
  have w9 := h.1.2.1
  unfold yaS
  have h1 : MWo W f (uI σ 3210 0) := h.nu rfl
  have a0 : Ag kQm σ (uI σ 3210 0) := Ag.I Ag.rf rfl
  rw [g_Model_yawns_0, c_Model_yawns_7 (N_isM h1.1 h1.2.2.1), g_Model_yawns_10]
  cases hx : ax_ix x1 (wp W) with
  | false => rw [cond_false, if_pos rfl, m1]; exact RnI.mk ⟨a0, rfl, rfl, rfl⟩
  | true =>
    rw [cond_true, if_neg (by decide), c_Model_yawns_17 N_inF, g_Model_yawns_20, cond_true]
    by_cases hi : inF x2 0 30 = 0
    · rw [if_pos hi, if_pos hi, m1]; exact RnI.mk ⟨a0, rfl, rfl, rfl⟩
    · obtain ⟨p, p1, p2, rfl⟩ := ix_of hx
      rw [if_neg hi, if_neg hi, shl_tab p (by omega), cln (n := p) (by omega)]
      have hlt := ya_lt (W := W) (f := f) (v := x2) (p_lt (p := p) (by omega))
      have key : ∀ m k, k + m = wp W → (∀ j, j < k → ¬ yaM W f x2 (2 ^ p) (j + 1) = yaM W f x2 (2 ^ p) j) → yaC W f x2 (2 ^ p) k = k → RnI (ev (d + 10) 100 35 [(0, .ref 50), (1, .int (nI p)), (2, .int x2), (3, .int (nI (yaM W f x2 (2 ^ p) k))), (4, .int (nI k)), (5, .int 1)] [] (mkH (uI σ 3210 0))) (fun τ x => Ag kQm σ τ ∧ x = nI (yaM W f x2 (2 ^ p) (wp W)) ∧ MD τ [(nI (yaC W f x2 (2 ^ p) (wp W))).toInt64]) := by
        intro m
        induction m with
        | zero =>
          intro k hk hall _
          have := ya_card (f := f) (v := x2) h.1 p1 k hall
          have := cd_le (P := Nat.testBit (yaM W f x2 (2 ^ p) k)) (wp W)
          omega
        | succ m ih =>
          intro k hk hall hc
          have h1l := hlt k
          have h2l := hlt (k + 1)
          rw [g_Model_yawns_35, if_neg (by decide)]
          refine N_ya1 h1 h1l ?_
          have em : ynF W f x2 (yaM W f x2 (2 ^ p) k) = yaM W f x2 (2 ^ p) (k + 1) := rfl
          rw [em, g_Model_yawns_46, h1.2.2.1.2.1, if_pos (nI_le (Nat.le_refl _) (by omega))]
          by_cases c : yaM W f x2 (2 ^ p) (k + 1) = yaM W f x2 (2 ^ p) k
          · obtain ⟨s1, s2⟩ := ya_stay c (wp W - k)
            rw [show k + (wp W - k) = wp W by omega] at s1 s2
            obtain ⟨ρ, t1, t2, t3⟩ := N_tell1 (d := d + 8) (σ := uI σ 3210 0) (x := (nI k).toInt64)
            rw [if_pos (by rw [c]), if_pos rfl, Int32.add_zero, g_Model_yawns_35, if_pos rfl, c_Model_yawns_164 t1, g_Model_yawns_167]
            refine RnI.mk ⟨a0.tr (t2.wk rfl), by rw [s1, c], ?_⟩
            rw [s2, hc]; exact t3
          · rw [if_neg (fun z => c ((nI_eq (by omega) (by omega)).mp z)), if_neg (by decide), nI_1]
            refine ih (k + 1) (by omega) (fun j hj => ?_) ?_
            · by_cases e : j = k
              · rw [e]; exact c
              · exact hall j (by omega)
            · show (if yaM W f x2 (2 ^ p) (k + 1) = yaM W f x2 (2 ^ p) k then yaC W f x2 (2 ^ p) k else yaC W f x2 (2 ^ p) k + 1) = k + 1
              rw [if_neg c, hc]
      exact (key (wp W) 0 (by omega) (fun j hj => absurd hj (Nat.not_lt_zero j)) rfl).im (fun τ x hh => hh)
end YA
theorem op_yawns : Op_yawns 400 INV := fun d hd k σ a1 a2 _ h => q_op (yaS a1 a2) (fun W f hW _ => by
  unfold yaS
  cases ax_ix a1 (wp W)
  · exact True.intro
  · rw [cond_true]; split
    · exact True.intro
    · show 1 ≤ 9
      decide) (fun d σ W f hd h => C_yawns hd h) (fun d σ W f hd h => M_yawns hd h) hd h
