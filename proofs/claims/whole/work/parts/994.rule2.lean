/-! rules: what is read, by both; a thing -/
def CPL (T : Nat → Int32) (e b k k1 : Nat) (u : Bool) (σ : Sg) (ok : Bool) (q : Nat) (E : (Nat → Int32) → Int32) (o : Option ax_R) : Prop :=
  RnI o (fun τ y => Ag (kRu u) σ τ ∧ CT τ T e q ∧ y = (bif ok then 1 else 0) ∧ (ok = true → ∃ k', sI τ (ri u 4) = nI k' ∧ k' + b ≤ k1 + q ∧ Seg (sA τ (ra u 0)) k k' E ∧ (∀ i, i < k → sA τ (ra u 0) i = sA σ (ra u 0) i) ∧ z1 (sI τ (ri u 5)) ∧ (sI τ (ri u 5) = 0 → sI σ (ri u 5) = 0 ∧ nohr E)))
def MPL (T : Nat → Int32) (n m : Nat) (σ : Sg) (ok : Bool) (q : Nat) (E : (Nat → Int32) → Int32) (o : Option ax_R) : Prop :=
  RnI o (fun τ x => Ag [3214, 3215] σ τ ∧ (ok = false → sI τ 3215 = nI q ∧ ∃ b, RD τ T n m b) ∧ (ok = true → sI τ 3215 = -1 ∧ RD τ T n m q ∧ (sI σ 3220 = 1 → ∀ th, (∀ k, k < 6 → sA σ 59 k = th k) → x = E th)))
def OC (jc jm lv : Nat) (T : Nat → Int32) (e a dp : Nat) : Prop := ∃ ok q E, q ≤ e ∧ (ok = true → a < q) ∧
  (∀ d σ u k, 4 * (e - a) + lv + 6 ≤ d → CT σ T e a → sI σ (ri u 4) = nI k → k ≤ a → z1 (sI σ (ri u 5)) → CPL T e a k k u σ ok q E (ev d jc 0 [(0, .ref (ro u)), (1, .int (nI dp))] [] (mkH σ))) ∧
  (∀ d σ n m, min n m = e → 4 * (e - a) + lv + 6 ≤ d → RD σ T n m a → sI σ 3215 = -1 → MPL T n m σ ok q E (ev d jm 0 [(0, .ref 50), (1, .int (nI dp))] [] (mkH σ)))
def sgF (fl : Bool) (E : (Nat → Int32) → Int32) : (Nat → Int32) → Int32 := fun th => bif fl then -(E th) else E th
def fN (fl : Bool) : Nat := bif fl then 1 else 0
def fI (fl : Bool) : Int32 := bif fl then 1 else 0
def OT (T : Nat → Int32) (e a dp : Nat) : Prop := ∃ ok q E, q ≤ e ∧ (ok = true → a < q) ∧
  (∀ fl d σ u k, 4 * (e - a) + 1 + 6 ≤ d → CT σ T e a → sI σ (ri u 4) = nI k → k + fN fl ≤ a → z1 (sI σ (ri u 5)) → CPL T e a k (k + fN fl) u σ ok q (sgF fl E) (ev d 192 2 [(0, .ref (ro u)), (1, .int (nI dp)), (2, .int (fI fl))] [] (mkH σ))) ∧
  (∀ d σ n m, min n m = e → 4 * (e - a) + 1 + 6 ≤ d → RD σ T n m a → sI σ 3215 = -1 → MPL T n m σ ok q E (ev d 42 0 [(0, .ref 50), (1, .int (nI dp))] [] (mkH σ)))
section R3
variable {d n m a b b' e k k1 k1' q dp : Nat} {u ok fl : Bool} {σ σ' τ : Sg} {T : Nat → Int32} {E E' : (Nat → Int32) → Int32} {o : Option ax_R} {x1 x3 x4 x5 : Int32}
theorem CPL.of66 (h : CPL T e b' k k1' u σ' ok q E' o) (g : Ag [66] σ σ') (hb : ∀ k', k' + b' ≤ k1' + q → k' + b ≤ k1 + q) (hE : E' = E) : CPL T e b k k1 u σ ok q E o := by
  subst hE
  have e5 : sI σ' (ri u 5) = sI σ (ri u 5) := g.1 (ri u 5) (by cases u <;> rfl)
  have ea : sA σ' (ra u 0) = sA σ (ra u 0) := g.2.1 (ra u 0) (by cases u <;> rfl)
  refine RnI.im h (fun τ y ⟨h1, h2, h3, h4⟩ => ⟨(g.wk (by cases u <;> rfl)).tr h1, h2, h3, fun z => ?_⟩)
  obtain ⟨k', q1, q2, q3, q4, q5, q6⟩ := h4 z
  rw [ea] at q4
  rw [e5] at q6
  exact ⟨k', q1, hb k' q2, q3, q4, q5, q6⟩
theorem MPL.of (h : MPL T n m σ' ok q E o) (g : Ag [3214] σ σ') : MPL T n m σ ok q E o := by
  refine RnI.im h (fun τ x ⟨h1, h2, h3⟩ => ⟨(g.wk rfl).tr h1, h2, fun z => ?_⟩)
  obtain ⟨q1, q2, q3⟩ := h3 z
  refine ⟨q1, q2, fun w th ht => q3 ((g.1 3220 rfl).trans w) th (fun k hk => ?_)⟩
  rw [g.2.1 59 rfl]; exact ht k hk
/-- a thing is there; its sign -/
theorem T_fin (g : Ag (kRu u) σ τ) (hc : CT τ T e q) (he : e ≤ 40) (hq : q ≤ e) {k2 : Nat} (h4 : sI τ (ri u 4) = nI k2) (hk : k2 + a ≤ k + q) (hka : k + fN fl ≤ a) (hs : Seg (sA τ (ra u 0)) k k2 E) (ho : ∀ i, i < k → sA τ (ra u 0) i = sA σ (ra u 0) i) (h5 : z1 (sI τ (ri u 5))) (h6 : sI τ (ri u 5) = 0 → sI σ (ri u 5) = 0 ∧ nohr E) :
    CPL T e a k (k + fN fl) u σ true q (sgF fl E) (if fI fl = 0 then rI τ 1 else ev (d + 2) 192 197 [(0, .ref (ro u)), (1, .int x1), (2, .int (fI fl)), (3, .int x3), (4, .int x4), (5, .int x5)] [.int ((Int8.ofInt (-7)).toInt32), .ref (ro u)] (mkH τ)) := by
  cases fl with
  | false =>
    rw [show fI false = 0 from rfl, if_pos rfl]
    exact RnI.mk ⟨g, hc, rfl, fun _ => ⟨k2, h4, hk, hs, ho, h5, h6⟩⟩
  | true =>
    have hka : k + 1 ≤ a := hka
    have e7 : (Int8.ofInt (-7)).toInt32 = -7 := by decide
    rw [show fI true = 1 from rfl, if_neg (by decide), e7]
    obtain ⟨ρ, r1, r2, r3, r4, r5, r6⟩ := K_emit (d := d) (s := -7) h4 (by omega) h5
    have sl := hs.1
    rw [c_Rule_thing_197 r1, g_Rule_thing_200, if_neg (show ¬ (1 : Int32) = 0 by decide)]
    refine RnI.mk ⟨g.tr (r2.wk (by cases u <;> rfl)), hc.ag r2 (by cases u <;> rfl), rfl, fun _ => ⟨k2 + 1, r3, ?_, ?_, fun i hi => ?_, r5, fun z => ?_⟩⟩
    · show k2 + 1 + a ≤ k + 1 + q
      omega
    · refine Seg.ng (E := E) (hs.cg (fun l l1 l2 => ?_)) ?_
      · rw [r4, upN (by omega)]
      · rw [r4, upS]
    · rw [r4, upN (by omega)]; exact ho i hi
    · exact ⟨(h6 (r6 z).1).1, nohr_ng (h6 (r6 z).1).2⟩
/-- to where the thing's sign is looked at -/
theorem T_pre (hc : CT σ T e a) (he : e ≤ 40) (ha : a ≤ e) (h45 : ¬ heF T e a = 45) : ev (d + 2) 192 2 [(0, .ref (ro u)), (1, .int x1), (2, .int x3)] [] (mkH σ) = ev (d + 2) 192 77 [(0, .ref (ro u)), (1, .int x1), (2, .int x3), (3, .int (heF T e a))] [.int (if ltF (heF T e a) < 6 then -1 - nI (ltF (heF T e a)) else 0)] (mkH σ) := by
  have go : ev (d + 2) 192 69 [(0, .ref (ro u)), (1, .int x1), (2, .int x3)] [.ref 1] (mkH σ) = ev (d + 2) 192 77 [(0, .ref (ro u)), (1, .int x1), (2, .int x3), (3, .int (heF T e a))] [.int (if ltF (heF T e a) < 6 then -1 - nI (ltF (heF T e a)) else 0)] (mkH σ) := by
    rw [c_Rule_thing_69 (C_look (d := d) hc), g_Rule_thing_72, c_Rule_thing_74 (K_letter (d := d))]
  rw [g_Rule_thing_2, hc.1, hc.2.1]
  rcases Nat.lt_or_ge a e with l | l
  · rw [if_neg (nI_ge l (by omega)), ixn (k := a) (by omega) (by decide), cond_true, cln (n := a) (by omega), hc.2.2.1, if_neg (by
      intro z; exact h45 (by unfold heF; rw [if_pos l]; exact z))]
    exact go
  · rw [if_pos (nI_le l (by omega))]
    exact go
/-- one sign - more -/
theorem O_minus (he : e ≤ 40) (h45 : heF T e a = 45) (h : OT T e (a + 1) dp) : OT T e a dp := by
  have l := he_lt (j := 45) h45 (by decide)
  obtain ⟨ok, q, E, h1, h2, h3, h4⟩ := h
  refine ⟨ok, q, fun th => -(E th), h1, fun z => by have := h2 z; omega, fun fl d σ u k hd hc h4' hk h5 => ?_, fun d σ n m hn hd hr hw => ?_⟩
  · obtain ⟨d, rfl⟩ : ∃ x, d = x + 1 := ⟨d - 1, by omega⟩
    have a1 : Ag [66] σ (uI σ 66 (nI (a + 1))) := Ag.I Ag.rf rfl
    have c1 : CT (uI σ 66 (nI (a + 1))) T e (a + 1) := hc.nx (by omega) rfl
    have r4 : sI (uI σ 66 (nI (a + 1))) (ri u 4) = nI k := (a1.1 (ri u 4) (by cases u <;> rfl)).trans h4'
    have r5 : z1 (sI (uI σ 66 (nI (a + 1))) (ri u 5)) := by rw [a1.1 (ri u 5) (by cases u <;> rfl)]; exact h5
    have ht : T a = 45 := by unfold heF at h45; rw [if_pos l] at h45; exact h45
    rw [g_Rule_thing_2, hc.1, hc.2.1, if_neg (nI_ge l (by omega)), ixn (k := a) (by omega) (by decide), cond_true, cln (n := a) (by omega), hc.2.2.1, if_pos ht, nI_1]
    generalize uI σ 66 (nI (a + 1)) = σ1 at a1 c1 r4 r5
    cases fl with
    | false =>
      rw [show fI false = 0 from rfl, if_pos rfl]
      refine (h3 true (d + 1) σ1 u k (by omega) c1 r4 (by show k + 1 ≤ a + 1; have : k + 0 ≤ a := hk; omega) r5).of66 a1 (fun k' z => ?_) rfl
      have z : k' + (a + 1) ≤ k + 1 + q := z
      show k' + a ≤ k + 0 + q
      omega
    | true =>
      have hk : k + 1 ≤ a := hk
      rw [show fI true = 1 from rfl, if_neg (by decide)]
      refine (h3 false (d + 1) σ1 u k (by omega) c1 r4 (by show k + 0 ≤ a + 1; omega) r5).of66 a1 (fun k' z => ?_) ?_
      · have z : k' + (a + 1) ≤ k + 0 + q := z
        show k' + a ≤ k + 1 + q
        omega
      · funext th
        show E th = -(-(E th))
        rw [Int32.neg_neg]
  · obtain ⟨d, rfl⟩ : ∃ x, d = x + 5 := ⟨d - 5, by omega⟩
    subst hn
    have a1 : Ag [3214] σ (uI σ 3214 (nI (a + 1))) := Ag.I Ag.rf rfl
    have r1 : RD (uI σ 3214 (nI (a + 1))) T n m (a + 1) := hr.nx (by omega) rfl
    have p1 := N_passes1 (d := d + 2) (x := 45) hr hw
    rw [if_pos h45] at p1
    have w1 : sI (uI σ 3214 (nI (a + 1))) 3215 = -1 := hw
    rw [g_Model_thing_0, c_Model_thing_3 p1, g_Model_thing_6, if_neg (show ¬ (1 : Int32) = 0 by decide)]
    generalize uI σ 3214 (nI (a + 1)) = σ1 at a1 r1 w1
    obtain ⟨τ, x, s1, s2, s3, s4⟩ := h4 (d + 4) σ1 n m rfl (by omega) r1 w1
    rw [c_Model_thing_11 s1, g_Model_thing_14]
    refine MPL.of (RnI.mk ⟨s2, s3, fun z => ?_⟩) a1
    obtain ⟨t1, t2, t3⟩ := s4 z
    exact ⟨t1, t2, fun w th ht => by rw [t3 w th ht]⟩
theorem lt_c {x : Int32} (h : ltF x < 6) : ¬ x = 45 ∧ ¬ x = 40 ∧ inF x 48 57 = 0 ∧ ∃ j, j < 128 ∧ x = nI j := by
  unfold ltF at h
  by_cases h0 : x = 98
  · subst h0; exact ⟨by decide, by decide, by decide, 98, by decide, rfl⟩
  rw [if_neg h0] at h
  by_cases h1 : x = 108
  · subst h1; exact ⟨by decide, by decide, by decide, 108, by decide, rfl⟩
  rw [if_neg h1] at h
  by_cases h2 : x = 99
  · subst h2; exact ⟨by decide, by decide, by decide, 99, by decide, rfl⟩
  rw [if_neg h2] at h
  by_cases h3 : x = 112
  · subst h3; exact ⟨by decide, by decide, by decide, 112, by decide, rfl⟩
  rw [if_neg h3] at h
  by_cases h4 : x = 109
  · subst h4; exact ⟨by decide, by decide, by decide, 109, by decide, rfl⟩
  rw [if_neg h4] at h
  by_cases h5 : x = 110
  · subst h5; exact ⟨by decide, by decide, by decide, 110, by decide, rfl⟩
  rw [if_neg h5] at h
  exact absurd h (by decide)
theorem lt_tab : ∀ i, i < 6 → ¬ (0 : Int32) ≤ -1 - nI i ∧ ¬ (-1 - nI i : Int32) ≤ -7 ∧ (-1 - nI i : Int32) < 0 ∧ Int32.toNatClampNeg (-1 - (-1 - nI i)) = i ∧ ¬ nI i = -1 ∧ ax_ix (nI i) 6 = true ∧ ((-1 - nI i : Int32) = -6 → i = 5) := by decide +kernel
/-- how the reference comes to a thing's sign -/
theorem TM_pre (hr : RD σ T n m a) (hw : sI σ 3215 = -1) (h45 : ¬ heF T (min n m) a = 45) : ev (d + 4) 42 0 [(0, .ref 50), (1, .int x1)] [] (mkH σ) = ev (d + 4) 42 29 [(0, .ref 50), (1, .int x1)] [.int (heF T (min n m) a)] (mkH σ) := by
  have p1 := N_passes1 (d := d + 1) (x := 45) hr hw
  rw [if_neg h45] at p1
  rw [g_Model_thing_0, c_Model_thing_3 p1, g_Model_thing_6, if_pos rfl, c_Model_thing_17 (N_fine1 (d := d + 2) hw), g_Model_thing_20, if_neg (show ¬ (1 : Int32) = 0 by decide), c_Model_thing_26 (N_here (d := d + 2) hr)]
/-- a letter -/
theorem O_letter (he : e ≤ 40) (hl : ltF (heF T e a) < 6) : OT T e a dp := by
  obtain ⟨c45, c40, cd, j, j1, j2⟩ := lt_c hl
  have l := he_lt j2 j1
  obtain ⟨t1, t2, t3, t4, t5, t6, t7⟩ := lt_tab _ hl
  refine ⟨true, a + 1, fun th => th (ltF (heF T e a)), by omega, fun _ => by omega, fun fl d σ u k hd hc h4 hk h5 => ?_, fun d σ n m hn hd hr hw => ?_⟩
  · obtain ⟨d, rfl⟩ : ∃ x, d = x + 2 := ⟨d - 2, by omega⟩
    have hk1 : k ≤ a := by omega
    have a1 : Ag [66] σ (uI σ 66 (nI (a + 1))) := Ag.I Ag.rf rfl
    have c1 : CT (uI σ 66 (nI (a + 1))) T e (a + 1) := hc.nx (by omega) rfl
    have e5 : sI (uI σ 66 (nI (a + 1))) (ri u 5) = sI σ (ri u 5) := a1.1 (ri u 5) (by cases u <;> rfl)
    have ea : sA (uI σ 66 (nI (a + 1))) (ra u 0) = sA σ (ra u 0) := a1.2.1 (ra u 0) (by cases u <;> rfl)
    have r4 : sI (uI σ 66 (nI (a + 1))) (ri u 4) = nI k := (a1.1 (ri u 4) (by cases u <;> rfl)).trans h4
    rw [T_pre hc he (by omega) c45, if_pos hl, g_Rule_thing_77, if_neg t1, hc.1, nI_1]
    generalize uI σ 66 (nI (a + 1)) = σ1 at a1 c1 e5 ea r4
    obtain ⟨τ, k1, k2, k3, k4, k5, k6⟩ := K_emit (d := d) (s := -1 - nI (ltF (heF T e a))) r4 (by omega) (by rw [e5]; exact h5)
    rw [c_Rule_thing_103 k1, g_Rule_thing_106, if_neg (show ¬ (1 : Int32) = 0 by decide)]
    refine T_fin (k2 := k + 1) ((a1.wk (by cases u <;> rfl)).tr (k2.wk (by cases u <;> rfl))) (c1.ag k2 (by cases u <;> rfl)) he (by omega) k3 (by omega) hk ?_ (fun i hi => ?_) k5 (fun z => ?_)
    · have sg := Seg.one (st := sA τ (ra u 0)) (k := k) (s := -1 - nI (ltF (heF T e a))) t2 (by rw [k4, upS])
      simp only [if_pos t3, t4] at sg
      exact sg
    · rw [k4, upN (by omega), ea]
    · obtain ⟨z1', z2⟩ := k6 z
      refine ⟨by rw [← e5]; exact z1', fun a' b' c' e' m' h h' => ?_⟩
      show th6 a' b' c' e' m' h (ltF (heF T e a)) = th6 a' b' c' e' m' h' (ltF (heF T e a))
      have n5 : ltF (heF T e a) ≠ 5 := fun w => z2 (by rw [w]; decide)
      generalize ltF (heF T e a) = i at hl n5
      match i, hl, n5 with
      | 0, _, _ => rfl
      | 1, _, _ => rfl
      | 2, _, _ => rfl
      | 3, _, _ => rfl
      | 4, _, _ => rfl
      | 5, _, w => exact absurd rfl w
  · obtain ⟨d, rfl⟩ : ∃ x, d = x + 4 := ⟨d - 4, by omega⟩
    subst hn
    rw [TM_pre hr hw c45, g_Model_thing_29, if_neg c40, c_Model_thing_72 (N_inF (d := d + 2)), g_Model_thing_75, if_pos cd, c_Model_thing_85 (M_letter (d := d + 2)), g_Model_thing_88, if_pos hl, m1, if_neg t5, hr.2.2.1, nI_1]
    have a1 : Ag [3214] σ (uI σ 3214 (nI (a + 1))) := Ag.I Ag.rf rfl
    have r1 : RD (uI σ 3214 (nI (a + 1))) T n m (a + 1) := hr.nx (by omega) rfl
    by_cases z : sI σ 3220 = 0
    · rw [if_pos z]
      exact RnI.mk ⟨a1.wk rfl, fun w => (by cases w), fun _ => ⟨hw, r1, fun w => absurd (w.symm.trans z) (by decide)⟩⟩
    · rw [if_neg z, c_Model_thing_124 (M_letter (d := d + 2)), g_Model_thing_127, if_pos hl, t6, cond_true, cln (n := ltF (heF T (min n m) a)) (by omega)]
      exact RnI.mk ⟨a1.wk rfl, fun w => (by cases w), fun _ => ⟨hw, r1, fun _ th ht => ht _ hl⟩⟩
/-- a number -/
theorem O_num (he : e ≤ 40) (h0 : ¬ inF (heF T e a) 48 57 = 0) : OT T e a dp := by
  obtain ⟨j, j1, j2, j3⟩ := dg_n h0
  have l := he_lt j3 (by omega)
  obtain ⟨n1, n2⟩ := nu_lt h0
  have nv := nu_v h0
  have c45 : ¬ heF T e a = 45 := by rw [j3]; exact nI_ne (a := 48 + j) (b := 45) (by omega) (by decide) (by omega)
  have c40 : ¬ heF T e a = 40 := by rw [j3]; exact nI_ne (a := 48 + j) (b := 40) (by omega) (by decide) (by omega)
  have hl : ¬ ltF (heF T e a) < 6 := fun z => h0 (lt_c z).2.2.1
  have p7 : ¬ nI (nuV T e a) ≤ (-7 : Int32) := by
    intro z
    rw [Int32.le_iff_toInt_le, show (-7 : Int32).toInt = -7 from by decide] at z
    have : ¬ nI (nuV T e a) < 0 := nI_pos (by omega)
    rw [Int32.lt_iff_toInt_lt, show (0 : Int32).toInt = 0 from by decide] at this
    omega
  refine ⟨true, a + nuN T e a, fun _ => nI (nuV T e a), n2, fun _ => by omega, fun fl d σ u k hd hc h4 hk h5 => ?_, fun d σ n m hn hd hr hw => ?_⟩
  · obtain ⟨d, rfl⟩ : ∃ x, d = x + 3 := ⟨d - 3, by omega⟩
    have hk1 : k ≤ a := by omega
    obtain ⟨τ, k1, k2, k3, k4, k5, k6, k7⟩ := K_num (d := d) (u := u) hc (by omega) h0 h4 (by omega) h5
    rw [T_pre hc he (by omega) c45, if_neg hl, g_Rule_thing_77, if_pos (show (0 : Int32) ≤ 0 by decide), if_neg c40, if_neg (show ¬ heF T e a < 48 by rw [j3]; exact nI_nlt (a := 48 + j) (b := 48) (by omega) (by omega)), if_neg (show ¬ 57 < heF T e a by rw [j3]; exact nI_nlt (a := 57) (b := 48 + j) (by omega) (by omega)), c_Rule_thing_180 k1, g_Rule_thing_183, if_neg (show ¬ (1 : Int32) = 0 by decide)]
    refine T_fin (k2 := k + 1) k2 k3 he n2 k4 (by omega) hk ?_ (fun i hi => ?_) k6 (fun z => ⟨k7 z, fun _ _ _ _ _ _ _ => rfl⟩)
    · have sg := Seg.one (st := sA τ (ra u 0)) (k := k) (s := nI (nuV T e a)) p7 (by rw [k5, upS])
      simp only [if_neg (show ¬ nI (nuV T e a) < 0 from nI_pos (by omega))] at sg
      exact sg
    · rw [k5, upN (by omega)]
  · obtain ⟨d, rfl⟩ : ∃ x, d = x + 5 := ⟨d - 5, by omega⟩
    subst hn
    obtain ⟨τ, x, k1, k2, k3, rfl⟩ := M_num (d := d) hr hw (by omega) h0
    rw [TM_pre hr hw c45, g_Model_thing_29, if_neg c40, c_Model_thing_72 (N_inF (d := d + 3)), g_Model_thing_75, if_neg h0, c_Model_thing_80 k1, g_Model_thing_83]
    exact RnI.mk ⟨k2.wk rfl, fun w => (by cases w), fun _ => ⟨(k2.1 3215 rfl).trans hw, k3, fun _ th ht => rfl⟩⟩
/-- none of them -/
theorem O_none (he : e ≤ 40) (ha : a ≤ e) (hdp : dp ≤ 4) (c45 : ¬ heF T e a = 45) (hl : ¬ ltF (heF T e a) < 6) (h0 : inF (heF T e a) 48 57 = 0) (h40 : ¬ (heF T e a = 40 ∧ dp < 4)) : OT T e a dp := by
  refine ⟨false, a, fun _ => 0, ha, fun z => (by cases z), fun fl d σ u k hd hc h4 hk h5 => ?_, fun d σ n m hn hd hr hw => ?_⟩
  · obtain ⟨d, rfl⟩ : ∃ x, d = x + 2 := ⟨d - 2, by omega⟩
    rw [T_pre hc he ha c45, if_neg hl, g_Rule_thing_77, if_pos (show (0 : Int32) ≤ 0 by decide)]
    have fin : CPL T e a k (k + fN fl) u σ false a (sgF fl fun _ => 0) (rI σ 0) := RnI.mk ⟨Ag.rf, hc, rfl, fun z => (by cases z)⟩
    by_cases q40 : heF T e a = 40
    · have : 4 ≤ dp := Decidable.byContradiction (fun z => h40 ⟨q40, by omega⟩)
      rw [if_pos q40, if_pos (show (4 : Int32) ≤ nI dp from nI_le (a := 4) (b := dp) (by omega) (by omega)), if_pos (show heF T e a < 48 by rw [q40]; decide), if_pos rfl]
      exact fin
    · rw [if_neg q40]
      by_cases q48 : heF T e a < 48
      · rw [if_pos q48, if_pos rfl]; exact fin
      · by_cases q57 : 57 < heF T e a
        · rw [if_neg q48, if_pos q57, if_pos rfl]; exact fin
        · exfalso
          unfold inF at h0
          rw [if_neg q48, if_neg q57] at h0
          exact absurd h0 (by decide)
  · obtain ⟨d, rfl⟩ : ∃ x, d = x + 4 := ⟨d - 4, by omega⟩
    subst hn
    have go : MPL T n m σ false a (fun _ => 0) (ev (d + 4) 42 72 [(0, .ref 50), (1, .int (nI dp)), (2, .int (heF T (min n m) a))] [.int 57, .int 48, .int (heF T (min n m) a)] (mkH σ)) := by
      have a1 : Ag [3215] σ (uI σ 3215 (nI a)) := Ag.I Ag.rf rfl
      rw [c_Model_thing_72 (N_inF (d := d + 2)), g_Model_thing_75, if_pos h0, c_Model_thing_85 (M_letter (d := d + 2)), g_Model_thing_88, if_neg hl, m1, if_pos rfl, hr.2.2.1, c_Model_thing_97 (N_fault1 (d := d + 1) hw), g_Model_thing_100]
      exact RnI.mk ⟨a1.wk rfl, fun _ => ⟨rfl, a, hr.ag a1 rfl⟩, fun z => (by cases z)⟩
    rw [TM_pre hr hw c45, g_Model_thing_29]
    by_cases q40 : heF T (min n m) a = 40
    · have : 4 ≤ dp := Decidable.byContradiction (fun z => h40 ⟨q40, by omega⟩)
      rw [if_pos q40, if_pos (show (4 : Int32) ≤ nI dp from nI_le (a := 4) (b := dp) (by omega) (by omega))]
      exact go
    · rw [if_neg q40]; exact go
/-- what stands in brackets -/
theorem O_brack (he : e ≤ 40) (h40 : heF T e a = 40) (hdp : dp < 4) (h : OC 189 38 4 T e (a + 1) (dp + 1)) : OT T e a dp := by
  have l := he_lt (j := 40) h40 (by decide)
  have c45 : ¬ heF T e a = 45 := by rw [h40]; decide
  have hl : ¬ ltF (heF T e a) < 6 := fun z => (lt_c z).2.1 h40
  obtain ⟨ok, q, E, h1, h2, h3, h4⟩ := h
  -- both, as far as what stands in them
  have cl1 : ∀ (fl : Bool) (d : Nat) (σ : Sg) (u : Bool) (k : Nat), 4 * (e - a) + 1 + 6 ≤ d + 3 → CT σ T e a → sI σ (ri u 4) = nI k → k + fN fl ≤ a → z1 (sI σ (ri u 5)) → ∃ τ y x4, ev (d + 3) 192 2 [(0, .ref (ro u)), (1, .int (nI dp)), (2, .int (fI fl))] [] (mkH σ) = ev (d + 3) 192 142 [(0, .ref (ro u)), (1, .int (nI dp)), (2, .int (fI fl)), (3, .int (heF T e a)), (4, .int x4), (5, .int 0)] [.int y] (mkH τ) ∧ Ag (kRu u) σ τ ∧ CT τ T e q ∧ y = (bif ok then 1 else 0) ∧ (ok = true → ∃ k', sI τ (ri u 4) = nI k' ∧ k' + (a + 1) ≤ k + q ∧ Seg (sA τ (ra u 0)) k k' E ∧ (∀ i, i < k → sA τ (ra u 0) i = sA σ (ra u 0) i) ∧ z1 (sI τ (ri u 5)) ∧ (sI τ (ri u 5) = 0 → sI σ (ri u 5) = 0 ∧ nohr E)) := fun fl d σ u k hd hc h4 hk h5 => by
    have a1 : Ag [66] σ (uI σ 66 (nI (a + 1))) := Ag.I Ag.rf rfl
    have c1 : CT (uI σ 66 (nI (a + 1))) T e (a + 1) := hc.nx (by omega) rfl
    have e5 : sI (uI σ 66 (nI (a + 1))) (ri u 5) = sI σ (ri u 5) := a1.1 (ri u 5) (by cases u <;> rfl)
    have ea : sA (uI σ 66 (nI (a + 1))) (ra u 0) = sA σ (ra u 0) := a1.2.1 (ra u 0) (by cases u <;> rfl)
    have r4 : sI (uI σ 66 (nI (a + 1))) (ri u 4) = nI k := (a1.1 (ri u 4) (by cases u <;> rfl)).trans h4
    rw [T_pre hc he (by omega) c45, if_neg hl, g_Rule_thing_77, if_pos (show (0 : Int32) ≤ 0 by decide), if_pos h40, if_neg (show ¬ (4 : Int32) ≤ nI dp from nI_ge (a := dp) (b := 4) hdp (by decide)), hc.1, nI_1, nI_1]
    generalize uI σ 66 (nI (a + 1)) = σ1 at a1 c1 e5 ea r4
    obtain ⟨τ, y, s1, s2, s3, s4, s5⟩ := h3 (d + 2) σ1 u k (by omega) c1 r4 (by omega) (by rw [e5]; exact h5)
    rw [c_Rule_thing_139 s1]
    rw [ea, e5] at s5
    exact ⟨τ, y, _, rfl, (a1.wk (by cases u <;> rfl)).tr s2, s3, s4, s5⟩
  have m1' : ∀ (d : Nat) (σ : Sg) (n m : Nat), min n m = e → 4 * (e - a) + 1 + 6 ≤ d + 4 → RD σ T n m a → sI σ 3215 = -1 → ∃ τ x x2, ev (d + 4) 42 0 [(0, .ref 50), (1, .int (nI dp))] [] (mkH σ) = ev (d + 4) 42 62 [(0, .ref 50), (1, .int (nI dp)), (2, .int x2), (3, .int x)] [.int 41, .ref 50] (mkH τ) ∧ Ag [3214, 3215] σ τ ∧ (ok = false → sI τ 3215 = nI q ∧ ∃ b, RD τ T n m b) ∧ (ok = true → sI τ 3215 = -1 ∧ RD τ T n m q ∧ (sI σ 3220 = 1 → ∀ th, (∀ k, k < 6 → sA σ 59 k = th k) → x = E th)) := fun d σ n m hn hd hr hw => by
    have hd : 4 * (min n m - a) + 1 + 6 ≤ d + 4 := by rw [hn]; exact hd
    have a1 : Ag [3214] σ (uI σ 3214 (nI (a + 1))) := Ag.I Ag.rf rfl
    have r1 : RD (uI σ 3214 (nI (a + 1))) T n m (a + 1) := hr.nx (by omega) rfl
    have w1 : sI (uI σ 3214 (nI (a + 1))) 3215 = -1 := hw
    have c45' : ¬ heF T (min n m) a = 45 := by rw [hn]; exact c45
    have c40' : heF T (min n m) a = 40 := by rw [hn]; exact h40
    rw [TM_pre hr hw c45', g_Model_thing_29, if_pos c40', if_neg (show ¬ (4 : Int32) ≤ nI dp from nI_ge (a := dp) (b := 4) hdp (by decide)), hr.2.2.1, nI_1, nI_1]
    have e20 : sI (uI σ 3214 (nI (a + 1))) 3220 = sI σ 3220 := rfl
    have e59 : sA (uI σ 3214 (nI (a + 1))) 59 = sA σ 59 := rfl
    generalize uI σ 3214 (nI (a + 1)) = σ1 at a1 r1 w1 e20 e59
    obtain ⟨τ, x, s1, s2, s3, s4⟩ := h4 (d + 3) σ1 n m hn (by rw [← hn]; omega) r1 w1
    rw [c_Model_thing_55 s1, g_Model_thing_58]
    rw [e20, e59] at s4
    exact ⟨τ, x, _, rfl, (a1.wk rfl).tr s2, s3, s4⟩
  cases ok with
  | false =>
    refine ⟨false, q, E, h1, fun z => (by cases z), fun fl d σ u k hd hc h4 hk h5 => ?_, fun d σ n m hn hd hr hw => ?_⟩
    · obtain ⟨d, rfl⟩ : ∃ x, d = x + 3 := ⟨d - 3, by omega⟩
      obtain ⟨τ, y, x4, s1, s2, s3, rfl, s5⟩ := cl1 fl d σ u k hd hc h4 hk h5
      rw [s1, g_Rule_thing_142, cond_false, if_pos rfl, if_pos rfl]
      exact RnI.mk ⟨s2, s3, rfl, fun z => (by cases z)⟩
    · obtain ⟨d, rfl⟩ : ∃ x, d = x + 4 := ⟨d - 4, by omega⟩
      obtain ⟨τ, x, x2, s1, s2, s3, s4⟩ := m1' d σ n m hn hd hr hw
      obtain ⟨t1, b, t2⟩ := s3 rfl
      have nw : ¬ sI τ 3215 = -1 := by rw [t1]; exact nI_nm1 (by omega)
      have nd : ev (d + 3) 26 0 [(0, .ref 50), (1, .int 41)] [] (mkH τ) = rV τ := by
        rw [g_Model_need_0, c_Model_need_2 (N_passes0 (d := d) nw), g_Model_need_5, if_pos rfl, c_Model_need_13 (N_fault0 (d := d) nw), g_Model_need_16]
      rw [s1, c_Model_thing_62 nd, g_Model_thing_65]
      exact RnI.mk ⟨s2, fun _ => ⟨t1, b, t2⟩, fun z => (by cases z)⟩
  | true =>
    have aq := h2 rfl
    by_cases h41 : heF T e q = 41
    · have ql := he_lt (j := 41) h41 (by decide)
      refine ⟨true, q + 1, E, by omega, fun _ => by omega, fun fl d σ u k hd hc h4 hk h5 => ?_, fun d σ n m hn hd hr hw => ?_⟩
      · obtain ⟨d, rfl⟩ : ∃ x, d = x + 3 := ⟨d - 3, by omega⟩
        obtain ⟨τ, y, x4, s1, s2, s3, rfl, s5⟩ := cl1 fl d σ u k hd hc h4 hk h5
        obtain ⟨k', z1', z2, z3, z4, z5, z6⟩ := s5 rfl
        have tk := K_take (d := d) (x := 41) s3
        rw [if_pos h41] at tk
        have a1 : Ag [66] τ (uI τ 66 (nI (q + 1))) := Ag.I Ag.rf rfl
        have c1 : CT (uI τ 66 (nI (q + 1))) T e (q + 1) := s3.nx (by omega) rfl
        have e4 : sI (uI τ 66 (nI (q + 1))) (ri u 4) = sI τ (ri u 4) := a1.1 (ri u 4) (by cases u <;> rfl)
        have e5 : sI (uI τ 66 (nI (q + 1))) (ri u 5) = sI τ (ri u 5) := a1.1 (ri u 5) (by cases u <;> rfl)
        have ea : sA (uI τ 66 (nI (q + 1))) (ra u 0) = sA τ (ra u 0) := a1.2.1 (ra u 0) (by cases u <;> rfl)
        rw [s1, g_Rule_thing_142, cond_true, if_neg (show ¬ (1 : Int32) = 0 by decide), c_Rule_thing_151 tk, g_Rule_thing_154, if_neg (show ¬ (1 : Int32) = 0 by decide), if_neg (show ¬ (1 : Nat) = 0 by decide)]
        generalize uI τ 66 (nI (q + 1)) = τ1 at a1 c1 e4 e5 ea
        exact T_fin (k2 := k') (s2.tr (a1.wk (by cases u <;> rfl))) c1 he (by omega) (e4.trans z1') (by omega) hk (by rw [ea]; exact z3) (fun i hi => by rw [ea]; exact z4 i hi) (by rw [e5]; exact z5) (by rw [e5]; exact z6)
      · obtain ⟨d, rfl⟩ : ∃ x, d = x + 4 := ⟨d - 4, by omega⟩
        obtain ⟨τ, x, x2, s1, s2, s3, s4⟩ := m1' d σ n m hn hd hr hw
        obtain ⟨t1, t2, t3⟩ := s4 rfl
        have ps := N_passes1 (d := d) (x := 41) t2 t1
        rw [if_pos (by rw [hn]; exact h41)] at ps
        have nd : ev (d + 3) 26 0 [(0, .ref 50), (1, .int 41)] [] (mkH τ) = rV (uI τ 3214 (nI (q + 1))) := by
          rw [g_Model_need_0, c_Model_need_2 ps, g_Model_need_5, if_neg (show ¬ (1 : Int32) = 0 by decide)]
        rw [s1, c_Model_thing_62 nd, g_Model_thing_65]
        exact RnI.mk ⟨s2.tr (Ag.I Ag.rf rfl), fun z => (by cases z), fun _ => ⟨t1, t2.nx (by omega) rfl, t3⟩⟩
    · refine ⟨false, q, E, h1, fun z => (by cases z), fun fl d σ u k hd hc h4 hk h5 => ?_, fun d σ n m hn hd hr hw => ?_⟩
      · obtain ⟨d, rfl⟩ : ∃ x, d = x + 3 := ⟨d - 3, by omega⟩
        obtain ⟨τ, y, x4, s1, s2, s3, rfl, s5⟩ := cl1 fl d σ u k hd hc h4 hk h5
        have tk := K_take (d := d) (x := 41) s3
        rw [if_neg h41] at tk
        rw [s1, g_Rule_thing_142, cond_true, if_neg (show ¬ (1 : Int32) = 0 by decide), c_Rule_thing_151 tk, g_Rule_thing_154, if_pos rfl, if_pos rfl]
        exact RnI.mk ⟨s2, s3, rfl, fun z => (by cases z)⟩
      · obtain ⟨d, rfl⟩ : ∃ x, d = x + 4 := ⟨d - 4, by omega⟩
        obtain ⟨τ, x, x2, s1, s2, s3, s4⟩ := m1' d σ n m hn hd hr hw
        obtain ⟨t1, t2, t3⟩ := s4 rfl
        have ps := N_passes1 (d := d) (x := 41) t2 t1
        rw [if_neg (by rw [hn]; exact h41)] at ps
        have a1 : Ag [3215] τ (uI τ 3215 (nI q)) := Ag.I Ag.rf rfl
        have nd : ev (d + 3) 26 0 [(0, .ref 50), (1, .int 41)] [] (mkH τ) = rV (uI τ 3215 (nI q)) := by
          rw [g_Model_need_0, c_Model_need_2 ps, g_Model_need_5, if_pos rfl, t2.2.2.1, c_Model_need_13 (N_fault1 (d := d) t1), g_Model_need_16]
        rw [s1, c_Model_thing_62 nd, g_Model_thing_65]
        exact RnI.mk ⟨s2.tr (a1.wk rfl), fun _ => ⟨rfl, q, t2.ag a1 rfl⟩, fun z => (by cases z)⟩
theorem O_thing (he : e ≤ 40) (ha : a ≤ e) (hdp : dp ≤ 4) (ht : a < e → OT T e (a + 1) dp) (hh : a < e → dp < 4 → OC 189 38 4 T e (a + 1) (dp + 1)) : OT T e a dp := by
  by_cases c45 : heF T e a = 45
  · exact O_minus he c45 (ht (he_lt (j := 45) c45 (by decide)))
  by_cases hl : ltF (heF T e a) < 6
  · exact O_letter he hl
  by_cases h0 : inF (heF T e a) 48 57 = 0
  · by_cases h40 : heF T e a = 40 ∧ dp < 4
    · exact O_brack he h40.1 h40.2 (hh (he_lt (j := 40) h40.1 (by decide)) h40.2)
    · exact O_none he ha hdp c45 hl h0 h40
  · exact O_num he h0
end R3
