/-! passengers -/
def pfF (T : Nat → Int32) (e B a : Nat) : Option Nat :=
  if inF (heF T e a) 49 57 = 0 then some a else if inF (heF T e (a + 1)) 48 (48 + nI B - 1) = 0 then some (a + 1) else if heF T e (a + 2) = 97 ∨ heF T e (a + 2) = 115 then none else some (a + 2)
theorem in_j {c lo hi : Int32} {a b : Nat} (h : ¬ inF c lo hi = 0) (e1 : lo = nI a) (e2 : hi = nI b) (ha : a < 2147483648) (hb : b < 128) : ∃ j, j < 128 ∧ c = nI j := by
  unfold inF at h
  by_cases z1 : c < lo
  · rw [if_pos z1] at h; exact absurd rfl h
  · rw [if_neg z1] at h
    by_cases z2 : hi < c
    · rw [if_pos z2] at h; exact absurd rfl h
    · rw [e1] at z1
      rw [e2] at z2
      have g0 : ¬ c < 0 := fun z => by
        exact z1 (Int32.lt_of_lt_of_le z (show nI 0 ≤ nI a from nI_le (Nat.zero_le a) ha))
      obtain ⟨j, hj, rfl⟩ := nI_of g0
      exact ⟨j, Decidable.byContradiction (fun q => z2 (nI_lt (by omega) (by omega))), rfl⟩
section MN
variable {d n m a c B : Nat} {σ τ : Sg} {T : Nat → Int32} {K : List Nat} {x y : Int32}
theorem C_man {e p : Nat} (h : CT σ T e a) (hB : sI σ 325 = nI B) (hB4 : B ≤ 4) (hp : p < 9) (ha : a ≤ 1000) :
    (∀ q, pfF T e B a = some q → RnI (ev (d + 2) 141 0 [(0, .ref 5), (1, .ref 1), (2, .int (nI p))] [] (mkH σ)) (fun τ y => Ag [66] σ τ ∧ y = 0 ∧ CT τ T e q)) ∧
    (pfF T e B a = none → RnI (ev (d + 2) 141 0 [(0, .ref 5), (1, .ref 1), (2, .int (nI p))] [] (mkH σ)) (fun τ y => Ag [66, 10018, 10019, 10020, 10021] σ τ ∧ y = 1 ∧ CT τ T e (a + 3) ∧ sA τ 18 = upd (sA σ 18) p (heF T e a - 48) ∧ sA τ 19 = upd (sA σ 19) p (heF T e (a + 1) - 48) ∧ sA τ 20 = upd (sA σ 20) p (if heF T e (a + 2) = 97 then 1 else 0) ∧ sA τ 21 = upd (sA σ 21) p (heF T e a - 48))) := by
  have hl := C_look (d := d) h
  have hd := C_dig (d := d) h
  rw [g_Fleet_draftPassenger_0, c_Fleet_draftPassenger_1 hl, g_Fleet_draftPassenger_4]
  unfold pfF
  by_cases c0 : inF (heF T e a) 49 57 = 0
  · rw [if_pos c0]
    refine ⟨fun q hq => ?_, fun hq => by cases hq⟩
    have hq : a = q := Option.some.inj hq
    subst hq
    by_cases z : heF T e a = 48
    · rw [if_pos z, if_neg (by decide)]
      exact RnI.mk ⟨Ag.rf, rfl, h⟩
    · have : inF (heF T e a) 48 57 = 0 := by
        unfold inF at c0 ⊢
        by_cases z1 : heF T e a < 48
        · rw [if_pos z1]
        · rw [if_neg z1]
          by_cases z2 : 57 < heF T e a
          · rw [if_pos z2]
          · have z3 : ¬ heF T e a < 49 := fun y => by
              obtain ⟨j, hj, ej⟩ := nI_of (show ¬ heF T e a < 0 from fun y => z1 (Int32.lt_trans y (by decide)))
              rw [ej] at z z1 y
              have y1 : ¬ j < 48 := fun q => z1 (show nI j < nI 48 from nI_lt q (by decide))
              have y2 : j < 49 := Decidable.byContradiction (fun q => (nI_nlt (a := j) (b := 49) (by omega) (by omega)) y)
              exact z (by rw [show j = 48 by omega]; rfl)
            rw [if_neg z3, if_neg z2] at c0
            exact absurd c0 (by decide)
      rw [if_neg z]
      rw [if_pos this] at hd
      rw [c_Fleet_draftPassenger_14 hd, g_Fleet_draftPassenger_17, if_neg (by decide)]
      exact RnI.mk ⟨Ag.rf, rfl, h⟩
  · rw [if_neg c0]
    obtain ⟨j, j0, j1, ej⟩ := in_n (a := 49) (b := 57) c0 rfl rfl (by decide) (by decide)
    have hd2 : inF (heF T e a) 48 57 = 1 := by
      rw [ej]; unfold inF
      rw [if_neg (show ¬ nI j < (48 : Int32) from nI_nlt (a := j) (b := 48) (by omega) (by omega)), if_neg (show ¬ (57 : Int32) < nI j from nI_nlt (a := 57) (b := j) (by omega) (by omega))]
    rw [if_neg (by rw [hd2]; decide)] at hd
    have e48 : heF T e a - 48 = nI (j - 48) := by rw [ej]; exact nI_sub (a := j) (b := 48) (by omega)
    rw [if_neg (show ¬ heF T e a = 48 by rw [ej]; exact nI_ne (a := j) (b := 48) (by omega) (by decide) (by omega)), c_Fleet_draftPassenger_14 hd, g_Fleet_draftPassenger_17, e48, if_pos (show (0 : Int32) ≤ nI (j - 48) from show nI 0 ≤ nI (j - 48) from nI_le (Nat.zero_le _) (by omega))]
    have h1 : CT (uI σ 66 (nI (a + 1))) T e (a + 1) := h.nx (by omega) rfl
    have a1 : Ag [66] σ (uI σ 66 (nI (a + 1))) := Ag.I Ag.rf rfl
    have hB1 : sI (uI σ 66 (nI (a + 1))) 325 = nI B := hB
    generalize hs1 : uI σ 66 (nI (a + 1)) = σ1 at h1 a1 hB1
    have hl1 := C_look (d := d) h1
    have hd1 := C_dig (d := d) h1
    rw [c_Fleet_draftPassenger_25 hl1, g_Fleet_draftPassenger_28, hB1, show (48 : Int32) + nI B = nI (48 + B) from nI_add 48 B]
    have e47 : nI (48 + B) - (1 : Int32) = nI (47 + B) := (nI_sub (a := 48 + B) (b := 1) (by omega)).trans (by rw [show 48 + B - 1 = 47 + B by omega])
    rw [e47]
    by_cases c1 : inF (heF T e (a + 1)) 48 (nI (47 + B)) = 0
    · rw [if_pos c1]
      refine ⟨fun q hq => ?_, fun hq => by cases hq⟩
      have hq : a + 1 = q := Option.some.inj hq
      subst hq
      have fin : RnI (ev (d + 2) 141 49 [(0, .ref 5), (1, .ref 1), (2, .int (nI p)), (3, .int (nI (j - 48))), (4, .int (Int32.ofInt (-1)))] [.ref 1] (mkH σ1)) (fun τ y => Ag [66] σ τ ∧ y = 0 ∧ CT τ T e (a + 1)) := by
        rw [c_Fleet_draftPassenger_49 hl1, g_Fleet_draftPassenger_52, if_pos (by decide)]
        exact RnI.mk ⟨a1, rfl, h1⟩
      by_cases z : heF T e (a + 1) < nI (48 + B)
      · have : inF (heF T e (a + 1)) 48 57 = 0 := by
          unfold inF at c1 ⊢
          by_cases z1 : heF T e (a + 1) < 48
          · rw [if_pos z1]
          · rw [if_neg z1] at c1
            by_cases z2 : nI (47 + B) < heF T e (a + 1)
            · obtain ⟨i, hi, ei⟩ := nI_of (show ¬ heF T e (a + 1) < 0 from fun y => z1 (Int32.lt_trans y (by decide)))
              rw [ei] at z z2
              have y1 : ¬ 48 + B ≤ i := fun q => nI_nlt (a := i) (b := 48 + B) q (by omega) z
              have y2 : ¬ i ≤ 47 + B := fun q => nI_nlt (a := 47 + B) (b := i) q (by omega) z2
              omega
            · rw [if_neg z2] at c1
              exact absurd c1 (by decide)
        rw [if_pos this] at hd1
        rw [if_pos z, c_Fleet_draftPassenger_43 hd1, g_Fleet_draftPassenger_46, ← m1]
        exact fin
      · rw [if_neg z]
        exact fin
    · rw [if_neg c1]
      obtain ⟨i, i0, i1, ei⟩ := in_n (a := 48) (b := 47 + B) c1 rfl rfl (by omega) (by
        rcases Nat.eq_zero_or_pos B with z | z
        · subst z
          refine absurd ?_ c1
          unfold inF
          by_cases z1 : heF T e (a + 1) < 48
          · rw [if_pos z1]
          · rw [if_neg z1, if_pos]
            exact Int32.lt_of_lt_of_le (show nI 47 < nI 48 by decide) (Int32.not_lt.mp z1)
        · omega)
      have hd3 : inF (heF T e (a + 1)) 48 57 = 1 := by
        rw [ei]; unfold inF
        rw [if_neg (show ¬ nI i < (48 : Int32) from nI_nlt (a := i) (b := 48) (by omega) (by omega)), if_neg (show ¬ (57 : Int32) < nI i from nI_nlt (a := 57) (b := i) (by omega) (by omega))]
      rw [if_neg (by rw [hd3]; decide)] at hd1
      have e482 : heF T e (a + 1) - 48 = nI (i - 48) := by rw [ei]; exact nI_sub (a := i) (b := 48) (by omega)
      have h2 : CT (uI σ1 66 (nI (a + 1 + 1))) T e (a + 2) := h1.nx (by omega) rfl
      have hl2 := C_look (d := d) h2
      rw [if_pos (show heF T e (a + 1) < nI (48 + B) by rw [ei]; exact nI_lt (by omega) (by omega)), c_Fleet_draftPassenger_43 hd1, g_Fleet_draftPassenger_46, e482, c_Fleet_draftPassenger_49 hl2, g_Fleet_draftPassenger_52, if_neg (nI_pos (by omega)), ixn (k := p) hp (by decide), cond_true, cond_true, cond_true, cond_true, cln (n := p) (by omega), nar1, nar0]
      rw [show sI (uI σ1 66 (nI (a + 1 + 1))) 66 = nI (a + 2) from rfl, nI_1]
      have a2 : Ag [66] σ (uI σ1 66 (nI (a + 1 + 1))) := a1.tr (Ag.I Ag.rf rfl)
      generalize uI σ1 66 (nI (a + 1 + 1)) = σ2 at h2 a2
      have h3 : CT (uI σ2 66 (nI (a + 2 + 1))) T e (a + 3) := h2.nx (by omega) rfl
      have done : ∀ v : Int32, RnI (rI (uA (uA (uA (uA (uI σ2 66 (nI (a + 2 + 1))) 18 p (nI (j - 48))) 19 p (nI (i - 48))) 20 p v) 21 p (nI (j - 48))) 1) (fun τ y => Ag [66, 10018, 10019, 10020, 10021] σ τ ∧ y = 1 ∧ CT τ T e (a + 3) ∧ sA τ 18 = upd (sA σ 18) p (nI (j - 48)) ∧ sA τ 19 = upd (sA σ 19) p (nI (i - 48)) ∧ sA τ 20 = upd (sA σ 20) p v ∧ sA τ 21 = upd (sA σ 21) p (nI (j - 48))) := fun v => by
        refine RnI.mk ⟨(a2.wk rfl).tr (Ag.A (Ag.A (Ag.A (Ag.A (Ag.I Ag.rf rfl) rfl) rfl) rfl) rfl), rfl, h3, ?_, ?_, ?_, ?_⟩
        · show upd (sA σ2 18) p _ = _
          rw [a2.2.1 18 rfl]
        · show upd (sA σ2 19) p _ = _
          rw [a2.2.1 19 rfl]
        · show upd (sA σ2 20) p _ = _
          rw [a2.2.1 20 rfl]
        · show upd (sA σ2 21) p _ = _
          rw [a2.2.1 21 rfl]
      by_cases z : heF T e (a + 2) = 97
      · rw [if_pos (Or.inl z), if_pos z, if_pos z, if_pos z]
        exact ⟨fun q hq => (by cases hq), fun _ => done 1⟩
      · by_cases z2 : heF T e (a + 2) = 115
        · rw [if_pos (Or.inr z2), if_neg z, if_pos z2, if_neg z, if_neg z]
          exact ⟨fun q hq => (by cases hq), fun _ => done 0⟩
        · rw [if_neg (fun q => q.elim z z2), if_neg z, if_neg z2]
          refine ⟨fun q hq => ?_, fun hq => by cases hq⟩
          have hq : a + 2 = q := Option.some.inj hq
          subst hq
          exact RnI.mk ⟨a2, rfl, h2⟩
theorem M_manT {b c : Nat} (h : RD σ T n m b) (hb : b ≤ 1000) (hc : c ≤ 50) : RnV (ev (d + 4) 36 42 [(0, .ref 50), (1, .int x)] [.ref 50, .int (nI (c + 2)), .ref 56] (mkH σ)) (fun τ => (¬ sI σ 3215 = -1 → Ag [3214, 10056] σ τ ∧ RD τ T n m (b + 1)) ∧
    (sI σ 3215 = -1 → (heF T (min n m) b = 97 ∨ heF T (min n m) b = 115) → Ag [3214, 10056] σ τ ∧ RD τ T n m (b + 1) ∧ sA τ 56 = upd (sA σ 56) (c + 2) (if heF T (min n m) b = 97 then 1 else 0)) ∧
    (sI σ 3215 = -1 → ¬ (heF T (min n m) b = 97 ∨ heF T (min n m) b = 115) → Ag [3214, 3215, 10056] σ τ ∧ RD τ T n m (b + 1) ∧ sI τ 3215 = nI b)) := by
  rw [c_Model_readMan_42 (N_here (d := d + 2) h), g_Model_readMan_45, ixn (k := c + 2) (n := 57) (by omega) (by decide), cond_true, cond_true, cln (n := c + 2) (by omega)]
  have e : ∀ v : Int32, RnV (ev (d + 4) 36 57 [(0, .ref 50), (1, .int x)] [.ref 50] (mkH (uA σ 56 (c + 2) v))) (fun τ => (¬ sI σ 3215 = -1 → Ag [3214, 10056] σ τ ∧ RD τ T n m (b + 1)) ∧
    (sI σ 3215 = -1 → (heF T (min n m) b = 97 ∨ heF T (min n m) b = 115) → Ag [3214, 10056] σ τ ∧ RD τ T n m (b + 1) ∧ sA τ 56 = upd (sA σ 56) (c + 2) v) ∧
    (sI σ 3215 = -1 → ¬ (heF T (min n m) b = 97 ∨ heF T (min n m) b = 115) → Ag [3214, 3215, 10056] σ τ ∧ RD τ T n m (b + 1) ∧ sI τ 3215 = nI b)) := fun v => by
    have a1 : Ag [10056] σ (uA σ 56 (c + 2) v) := Ag.A Ag.rf rfl
    have h1 := h.ag a1 rfl
    have e56 : sA (uA σ 56 (c + 2) v) 56 = upd (sA σ 56) (c + 2) v := rfl
    have ew : sI (uA σ 56 (c + 2) v) 3215 = sI σ 3215 := rfl
    generalize uA σ 56 (c + 2) v = s at a1 h1 e56 ew
    have h2 : RD (uI s 3214 (nI (b + 1))) T n m (b + 1) := h1.nx (by omega) rfl
    have a2 : Ag [3214, 10056] σ (uI s 3214 (nI (b + 1))) := (a1.wk rfl).tr (Ag.I Ag.rf rfl)
    by_cases hw : sI σ 3215 = -1
    · rw [c_Model_readMan_57 (N_fine1 (d := d + 2) (ew.trans hw)), g_Model_readMan_60, if_neg (by decide), c_Model_readMan_64 (N_here (d := d + 2) h1), g_Model_readMan_67, h1.2.2.1, nI_1]
      by_cases z : heF T (min n m) b = 97
      · rw [if_pos z]
        exact RnV.mk ⟨fun q => absurd hw q, fun _ _ => ⟨a2, h2, e56⟩, fun _ q => absurd (Or.inl z) q⟩
      · rw [if_neg z, c_Model_readMan_73 (N_here (d := d + 2) h1), g_Model_readMan_76, h1.2.2.1, nI_1]
        by_cases z2 : heF T (min n m) b = 115
        · rw [if_pos z2]
          exact RnV.mk ⟨fun q => absurd hw q, fun _ _ => ⟨a2, h2, e56⟩, fun _ q => absurd (Or.inr z2) q⟩
        · rw [if_neg z2, c_Model_readMan_86 (N_fault1 (d := d + 1) (ew.trans hw)), g_Model_readMan_89, show sI (uI s 3215 (nI b)) 3214 = nI b from h1.2.2.1, nI_1]
          have a3 : Ag [3215] s (uI s 3215 (nI b)) := Ag.I Ag.rf rfl
          exact RnV.mk ⟨fun q => absurd hw q, fun _ q => absurd q (fun q => q.elim z z2), fun _ _ => ⟨(a1.wk rfl).tr ((a3.wk rfl).tr (Ag.I Ag.rf rfl)), (h1.ag a3 rfl).nx (by omega) rfl, rfl⟩⟩
    · rw [c_Model_readMan_57 (N_fine0 (d := d + 2) (by rw [ew]; exact hw)), g_Model_readMan_60, if_pos rfl, h1.2.2.1, nI_1]
      exact RnV.mk ⟨fun _ => ⟨a2, h2⟩, fun q => absurd q hw, fun q => absurd q hw⟩
  by_cases z : heF T (min n m) b = 97
  · rw [if_pos z]
    have := e 1
    rw [if_pos z]; exact this
  · rw [if_neg z]
    have := e 0
    rw [if_neg z]; exact this
theorem M_man {c : Nat} (h : RD σ T n m a) (hw : sI σ 3215 = -1) (hB : sI σ 3202 = nI B) (hB4 : B ≤ 4) (ha : a ≤ 900) (hc : c ≤ 50) :
    (∀ q, pfF T (min n m) B a = some q → RnV (ev (d + 4) 36 0 [(0, .ref 50), (1, .int (nI c))] [] (mkH σ)) (fun τ => Ag [3214, 3215, 10056] σ τ ∧ sI τ 3215 = nI q ∧ ∃ b, RD τ T n m b)) ∧
    (pfF T (min n m) B a = none → RnV (ev (d + 4) 36 0 [(0, .ref 50), (1, .int (nI c))] [] (mkH σ)) (fun τ => Ag [3214, 10056] σ τ ∧ RD τ T n m (a + 3) ∧ sA τ 56 = upd (upd (upd (sA σ 56) c (heF T (min n m) a - 48)) (c + 1) (heF T (min n m) (a + 1) - 48)) (c + 2) (if heF T (min n m) (a + 2) = 97 then 1 else 0))) := by
  have e9 : (49 : Int32) + 9 - 1 = 57 := by decide
  have o1 := N_one1 (d := d) (x := 49) (y := 9) h hw (fun q hq => in_j hq (a := 49) (b := 57) rfl (by decide) (by decide) (by decide))
  rw [e9] at o1
  rw [g_Model_readMan_0]
  unfold pfF
  have e47 : (48 : Int32) + nI B - 1 = nI (47 + B) := by
    rw [show (48 : Int32) + nI B = nI (48 + B) from nI_add 48 B]
    exact (nI_sub (a := 48 + B) (b := 1) (by omega)).trans (by rw [show 48 + B - 1 = 47 + B by omega])
  have ec1 : nI c + (1 : Int32) = nI (c + 1) := nI_add c 1
  have ec2 : nI c + (2 : Int32) = nI (c + 2) := nI_add c 2
  by_cases c0 : inF (heF T (min n m) a) 49 57 = 0
  · rw [if_pos c0] at o1 ⊢
    refine ⟨fun q hq => ?_, fun hq => by cases hq⟩
    have hq : a = q := Option.some.inj hq
    subst hq
    have a1 : Ag [3215, 10056] σ (uA (uI σ 3215 (nI a)) 56 c (0 + 1)) := Ag.A (Ag.I Ag.rf rfl) rfl
    have h1 := h.ag a1 rfl
    have w1 : sI (uA (uI σ 3215 (nI a)) 56 c (0 + 1)) 3215 = nI a := rfl
    rw [c_Model_readMan_10 o1, g_Model_readMan_13, ixn (k := c) (n := 57) (by omega) (by decide), cond_true, cln (n := c) (by omega), ec1]
    generalize uA (uI σ 3215 (nI a)) 56 c (0 + 1) = s1 at a1 h1 w1
    have nw1 : ¬ sI s1 3215 = -1 := by rw [w1]; exact nI_nm1 (by omega)
    have a2 : Ag [10056] s1 (uA s1 56 (c + 1) 0) := Ag.A Ag.rf rfl
    rw [c_Model_readMan_30 (N_one0 (d := d) h1 nw1), g_Model_readMan_33, ixn (k := c + 1) (n := 57) (by omega) (by decide), cond_true, cln (n := c + 1) (by omega), ec2]
    refine (M_manT (d := d) (x := nI c) (h1.ag a2 rfl) (by omega) hc).im (fun τ ⟨k1, _, _⟩ => ?_)
    obtain ⟨k3, k4⟩ := k1 nw1
    exact ⟨(a1.wk rfl).tr ((a2.wk rfl).tr (k3.wk rfl)), (k3.1 3215 rfl).trans w1, _, k4⟩
  · rw [if_neg c0] at o1 ⊢
    obtain ⟨j, j0, j1, ej⟩ := in_n (a := 49) (b := 57) c0 rfl rfl (by decide) (by decide)
    have ev1 : heF T (min n m) a - 49 + 1 = heF T (min n m) a - 48 := by
      rw [ej, show nI j - (49 : Int32) = nI (j - 49) from nI_sub (a := j) (b := 49) (by omega), show nI j - (48 : Int32) = nI (j - 48) from nI_sub (a := j) (b := 48) (by omega), nI_1, show j - 49 + 1 = j - 48 by omega]
    have a1 : Ag [3214, 10056] σ (uA (uI σ 3214 (nI (a + 1))) 56 c (heF T (min n m) a - 48)) := Ag.A (Ag.I Ag.rf rfl) rfl
    have a0 : Ag [10056] (uI σ 3214 (nI (a + 1))) (uA (uI σ 3214 (nI (a + 1))) 56 c (heF T (min n m) a - 48)) := Ag.A Ag.rf rfl
    have h1 : RD (uA (uI σ 3214 (nI (a + 1))) 56 c (heF T (min n m) a - 48)) T n m (a + 1) := (h.nx (by omega) rfl).ag a0 rfl
    have w1 : sI (uA (uI σ 3214 (nI (a + 1))) 56 c (heF T (min n m) a - 48)) 3215 = -1 := hw
    have b1 : sI (uA (uI σ 3214 (nI (a + 1))) 56 c (heF T (min n m) a - 48)) 3202 = nI B := hB
    have f1 : sA (uA (uI σ 3214 (nI (a + 1))) 56 c (heF T (min n m) a - 48)) 56 = upd (sA σ 56) c (heF T (min n m) a - 48) := rfl
    rw [c_Model_readMan_10 o1, g_Model_readMan_13, ixn (k := c) (n := 57) (by omega) (by decide), cond_true, cln (n := c) (by omega), ec1, ev1, show sI (uI σ 3214 (nI (a + 1))) 3202 = nI B from hB]
    generalize uA (uI σ 3214 (nI (a + 1))) 56 c (heF T (min n m) a - 48) = s1 at a0 a1 h1 w1 b1 f1
    clear a0
    have o2 := N_one1 (d := d) (x := 48) (y := nI B) h1 w1 (fun q hq => in_j hq (a := 48) (b := 47 + B) rfl e47 (by decide) (by omega))
    rw [e47] at o2 ⊢
    by_cases c1 : inF (heF T (min n m) (a + 1)) 48 (nI (47 + B)) = 0
    · rw [if_pos c1] at o2 ⊢
      refine ⟨fun q hq => ?_, fun hq => by cases hq⟩
      have hq : a + 1 = q := Option.some.inj hq
      subst hq
      have a2 : Ag [3215, 10056] s1 (uA (uI s1 3215 (nI (a + 1))) 56 (c + 1) 0) := Ag.A (Ag.I Ag.rf rfl) rfl
      have h2 := h1.ag a2 rfl
      have w2 : sI (uA (uI s1 3215 (nI (a + 1))) 56 (c + 1) 0) 3215 = nI (a + 1) := rfl
      rw [c_Model_readMan_30 o2, g_Model_readMan_33, ixn (k := c + 1) (n := 57) (by omega) (by decide), cond_true, cln (n := c + 1) (by omega), ec2]
      generalize uA (uI s1 3215 (nI (a + 1))) 56 (c + 1) 0 = s2 at a2 h2 w2
      have nw2 : ¬ sI s2 3215 = -1 := by rw [w2]; exact nI_nm1 (by omega)
      refine (M_manT (d := d) (x := nI c) h2 (by omega) hc).im (fun τ ⟨k1, _, _⟩ => ?_)
      obtain ⟨k3, k4⟩ := k1 nw2
      exact ⟨(a1.wk rfl).tr ((a2.wk rfl).tr (k3.wk rfl)), (k3.1 3215 rfl).trans w2, _, k4⟩
    · rw [if_neg c1] at o2 ⊢
      have a2 : Ag [3214, 10056] s1 (uA (uI s1 3214 (nI (a + 1 + 1))) 56 (c + 1) (heF T (min n m) (a + 1) - 48)) := Ag.A (Ag.I Ag.rf rfl) rfl
      have a0 : Ag [10056] (uI s1 3214 (nI (a + 1 + 1))) (uA (uI s1 3214 (nI (a + 1 + 1))) 56 (c + 1) (heF T (min n m) (a + 1) - 48)) := Ag.A Ag.rf rfl
      have h2 : RD (uA (uI s1 3214 (nI (a + 1 + 1))) 56 (c + 1) (heF T (min n m) (a + 1) - 48)) T n m (a + 2) := (h1.nx (b := a + 2) (by omega) rfl).ag a0 rfl
      have w2 : sI (uA (uI s1 3214 (nI (a + 1 + 1))) 56 (c + 1) (heF T (min n m) (a + 1) - 48)) 3215 = -1 := w1
      have f2 : sA (uA (uI s1 3214 (nI (a + 1 + 1))) 56 (c + 1) (heF T (min n m) (a + 1) - 48)) 56 = upd (sA s1 56) (c + 1) (heF T (min n m) (a + 1) - 48) := rfl
      rw [c_Model_readMan_30 o2, g_Model_readMan_33, ixn (k := c + 1) (n := 57) (by omega) (by decide), cond_true, cln (n := c + 1) (by omega), ec2]
      generalize uA (uI s1 3214 (nI (a + 1 + 1))) 56 (c + 1) (heF T (min n m) (a + 1) - 48) = s2 at a0 a2 h2 w2 f2
      obtain ⟨τ, t1, t2, t3, t4⟩ := M_manT (d := d) (x := nI c) h2 (by omega) hc
      by_cases z : heF T (min n m) (a + 2) = 97 ∨ heF T (min n m) (a + 2) = 115
      · rw [if_pos z]
        refine ⟨fun q hq => (by cases hq), fun _ => ?_⟩
        obtain ⟨k1, k2, k3⟩ := t3 w2 z
        refine ⟨τ, t1, (a1.wk rfl).tr ((a2.wk rfl).tr (k1.wk rfl)), k2, ?_⟩
        rw [k3, f2, f1]
      · rw [if_neg z]
        refine ⟨fun q hq => ?_, fun hq => by cases hq⟩
        have hq : a + 2 = q := Option.some.inj hq
        subst hq
        obtain ⟨k1, k2, k3⟩ := t4 w2 z
        exact ⟨τ, t1, (a1.wk rfl).tr ((a2.wk rfl).tr (k1.wk rfl)), k3, _, k2⟩
end MN
