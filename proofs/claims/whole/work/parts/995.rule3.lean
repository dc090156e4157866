/-! rules: products and sums -/
section R4
variable {d n m a b b' e k k1 k1' q dp : Nat} {u ok fl : Bool} {σ σ' τ : Sg} {T : Nat → Int32} {E E' : (Nat → Int32) → Int32} {o : Option ax_R}
theorem CPL.tr (h : CPL T e b' k k1' u σ' ok q E o) (g : Ag (kRu u) σ σ') (hp : ∀ i, i < k → sA σ' (ra u 0) i = sA σ (ra u 0) i) (h5 : sI σ' (ri u 5) = 0 → sI σ (ri u 5) = 0) (hb : ∀ k', k' + b' ≤ k1' + q → k' + b ≤ k1 + q) : CPL T e b k k1 u σ ok q E o := by
  refine RnI.im h (fun τ y ⟨h1, h2, h3, h4⟩ => ⟨g.tr h1, h2, h3, fun z => ?_⟩)
  obtain ⟨k', q1, q2, q3, q4, q5, q6⟩ := h4 z
  exact ⟨k', q1, hb k' q2, q3, fun i hi => (q4 i hi).trans (hp i hi), q5, fun z => ⟨h5 (q6 z).1, (q6 z).2⟩⟩
theorem MPL.tr (h : MPL T n m σ' ok q E o) (g : Ag [3214, 3215] σ σ') : MPL T n m σ ok q E o := by
  refine RnI.im h (fun τ x ⟨h1, h2, h3⟩ => ⟨g.tr h1, h2, fun z => ?_⟩)
  obtain ⟨q1, q2, q3⟩ := h3 z
  refine ⟨q1, q2, fun w th ht => q3 ((g.1 3220 rfl).trans w) th (fun k hk => ?_)⟩
  rw [g.2.1 59 rfl]; exact ht k hk
theorem OT.oc (h : OT T e a dp) : OC 192 42 1 T e a dp := by
  obtain ⟨ok, q, E, h1, h2, h3, h4⟩ := h
  refine ⟨ok, q, E, h1, h2, fun d σ u k hd hc h4 hk h5 => ?_, h4⟩
  obtain ⟨d, rfl⟩ : ∃ x, d = x + 1 := ⟨d - 1, by omega⟩
  rw [g_Rule_thing_0]
  exact h3 false (d + 1) σ u k hd hc h4 hk h5
theorem L_product_stop {E0 : (Nat → Int32) → Int32} (he : e ≤ 40) (hbe : b ≤ e) (ne : ¬ (heF T e b = 42 ∨ heF T e b = 47)) : ∃ ok q E, q ≤ e ∧ (ok = true → b ≤ q) ∧
    (∀ d σ u k k1 i, 4 * (e - b) + 2 + 6 ≤ d → CT σ T e b → sI σ (ri u 4) = nI k1 → k1 ≤ b → i ≤ b → Seg (sA σ (ra u 0)) k k1 E0 → z1 (sI σ (ri u 5)) → (sI σ (ri u 5) = 0 → nohr E0) → CPL T e b k k1 u σ ok q E (ev d 191 8 [(0, .ref (ro u)), (1, .int (nI dp)), (2, .int 1), (3, .int (nI i))] [] (mkH σ))) ∧
    (∀ d σ n m x, min n m = e → 4 * (e - b) + 2 + 6 ≤ d → RD σ T n m b → sI σ 3215 = -1 → (sI σ 3220 = 1 → ∀ th, (∀ k, k < 6 → sA σ 59 k = th k) → x = E0 th) → MPL T n m σ ok q E (ev d 40 6 [(0, .ref 50), (1, .int (nI dp)), (2, .int x)] [] (mkH σ))) := by
  refine ⟨true, b, E0, hbe, fun _ => Nat.le_refl _, fun d σ u k k1 i hd hc h4 hk hi hs h5 h6 => ?_, fun d σ n m x hn hd hr hw hx => ?_⟩
  · obtain ⟨d, rfl⟩ : ∃ x, d = x + 2 := ⟨d - 2, by omega⟩
    rw [g_Rule_product_8, if_pos (show (1 : Int32) = 0 ∨ (1 : Int32) = 1 from Or.inr rfl), if_neg (show ¬ (1 : Int32) = 0 by decide), c_Rule_product_22 (C_look (d := d) hc), g_Rule_product_25, if_neg (fun z => ne (Or.inl z)), if_neg (fun z => ne (Or.inr z)), ite_self]
    exact RnI.mk ⟨Ag.rf, hc, rfl, fun _ => ⟨k1, h4, Nat.le_refl _, hs, fun i hi => rfl, h5, fun z => ⟨z, h6 z⟩⟩⟩
  · obtain ⟨d, rfl⟩ : ∃ x, d = x + 2 := ⟨d - 2, by omega⟩
    have hh := N_here (d := d) hr
    rw [hn] at hh
    rw [g_Model_product_6, c_Model_product_7 (N_fine1 (d := d) hw), g_Model_product_10, if_neg (show ¬ (1 : Int32) = 0 by decide), c_Model_product_14 hh, g_Model_product_17, if_neg (fun z => ne (Or.inl z)), c_Model_product_23 hh, g_Model_product_26, if_neg (fun z => ne (Or.inr z))]
    exact RnI.mk ⟨Ag.rf, fun z => (by cases z), fun _ => ⟨hw, hr, hx⟩⟩
theorem Mproduct_61 {c r x x1 : Int32} (hc : c = 42 ∨ c = 47) : ev (d + 1) 40 61 [(0, .ref 50), (1, .int x1), (2, .int x), (3, .int (if c = 42 then 1 else 0))] [.int r] (mkH σ) = ev (d + 1) 40 6 [(0, .ref 50), (1, .int x1), (2, .int (joF c x r))] [] (mkH σ) := by
  rw [g_Model_product_61]
  rcases hc with h | h
  · subst h
    rw [if_pos rfl, if_neg (show ¬ (1 : Int32) = 0 by decide)]
    rfl
  · subst h
    rw [if_neg (show ¬ (47 : Int32) = 42 by decide), if_pos rfl]
    by_cases z : r = 0
    · rw [if_pos z]
      show _ = ev (d + 1) 40 6 [(0, .ref 50), (1, .int x1), (2, .int (if r = 0 then 0 else x / r))] [] (mkH σ)
      rw [if_pos z]
    · rw [if_neg z, if_neg z]
      show _ = ev (d + 1) 40 6 [(0, .ref 50), (1, .int x1), (2, .int (if r = 0 then 0 else x / r))] [] (mkH σ)
      rw [if_neg z]
/-- the signs behind it -/
theorem L_product (he : e ≤ 40) {b0 : Nat} (hT : ∀ a', b0 ≤ a' → a' ≤ e → OC 192 42 1 T e a' dp) : ∀ (nn b : Nat) (E0 : (Nat → Int32) → Int32), b0 ≤ b → e ≤ b + nn → b ≤ e → ∃ ok q E, q ≤ e ∧ (ok = true → b ≤ q) ∧
    (∀ d σ u k k1 i, 4 * (e - b) + 2 + 6 ≤ d → CT σ T e b → sI σ (ri u 4) = nI k1 → k1 ≤ b → i ≤ b → Seg (sA σ (ra u 0)) k k1 E0 → z1 (sI σ (ri u 5)) → (sI σ (ri u 5) = 0 → nohr E0) → CPL T e b k k1 u σ ok q E (ev d 191 8 [(0, .ref (ro u)), (1, .int (nI dp)), (2, .int 1), (3, .int (nI i))] [] (mkH σ))) ∧
    (∀ d σ n m x, min n m = e → 4 * (e - b) + 2 + 6 ≤ d → RD σ T n m b → sI σ 3215 = -1 → (sI σ 3220 = 1 → ∀ th, (∀ k, k < 6 → sA σ 59 k = th k) → x = E0 th) → MPL T n m σ ok q E (ev d 40 6 [(0, .ref 50), (1, .int (nI dp)), (2, .int x)] [] (mkH σ))) := by
  intro nn
  induction nn with
  | zero =>
    intro b E0 hb0 hb hbe
    have ne : ¬ (heF T e b = 42 ∨ heF T e b = 47) := by
      unfold heF; rw [if_neg (by omega)]; decide
    exact L_product_stop he hbe ne
  | succ nn ih =>
    intro b E0 hb0 hb hbe
    by_cases hop : heF T e b = 42 ∨ heF T e b = 47
    · have l : b < e := by
        rcases hop with z | z
        · exact he_lt (j := 42) z (by decide)
        · exact he_lt (j := 47) z (by decide)
      obtain ⟨ok1, q1, E1, h1, h2, h3, h4⟩ := hT (b + 1) (by omega) (by omega)
      have c7 : -(heF T e b) ≤ -7 ∧ ¬ -(heF T e b) = -7 ∧ ¬ -(heF T e b) = -6 ∧ -(-(heF T e b)) = heF T e b := by
        rcases hop with z | z <;> rw [z] <;> decide
      -- the class, behind the sign
      have cl1 : ∀ (d : Nat) (σ : Sg) (u : Bool) (k1 i : Nat), 4 * (e - b) + 2 + 6 ≤ d + 1 → CT σ T e b → sI σ (ri u 4) = nI k1 → k1 ≤ b → i ≤ b → z1 (sI σ (ri u 5)) → ∃ τ y, ev (d + 1) 191 8 [(0, .ref (ro u)), (1, .int (nI dp)), (2, .int 1), (3, .int (nI i))] [] (mkH σ) = ev (d + 1) 191 61 [(0, .ref (ro u)), (1, .int (nI dp)), (2, .int 1), (3, .int (nI i)), (4, .int (heF T e b))] [.int y] (mkH τ) ∧ Ag (kRu u) σ τ ∧ CT τ T e q1 ∧ y = (bif ok1 then 1 else 0) ∧ (ok1 = true → ∃ k', sI τ (ri u 4) = nI k' ∧ k' + (b + 1) ≤ k1 + q1 ∧ Seg (sA τ (ra u 0)) k1 k' E1 ∧ (∀ i, i < k1 → sA τ (ra u 0) i = sA σ (ra u 0) i) ∧ z1 (sI τ (ri u 5)) ∧ (sI τ (ri u 5) = 0 → sI σ (ri u 5) = 0 ∧ nohr E1)) := fun d σ u k1 i hd hc h4 hk hi h5 => by
        obtain ⟨d, rfl⟩ : ∃ x, d = x + 1 := ⟨d - 1, by omega⟩
        have a1 : Ag [66] σ (uI σ 66 (nI (b + 1))) := Ag.I Ag.rf rfl
        have c1 : CT (uI σ 66 (nI (b + 1))) T e (b + 1) := hc.nx (by omega) rfl
        have e5 : sI (uI σ 66 (nI (b + 1))) (ri u 5) = sI σ (ri u 5) := a1.1 (ri u 5) (by cases u <;> rfl)
        have ea : sA (uI σ 66 (nI (b + 1))) (ra u 0) = sA σ (ra u 0) := a1.2.1 (ra u 0) (by cases u <;> rfl)
        have r4 : sI (uI σ 66 (nI (b + 1))) (ri u 4) = nI k1 := (a1.1 (ri u 4) (by cases u <;> rfl)).trans h4
        have pre : ev (d + 1 + 1) 191 8 [(0, .ref (ro u)), (1, .int (nI dp)), (2, .int 1), (3, .int (nI i))] [] (mkH σ) = ev (d + 1 + 1) 191 58 [(0, .ref (ro u)), (1, .int (nI dp)), (2, .int 1), (3, .int (nI i)), (4, .int (heF T e b))] [.int (nI dp), .ref (ro u)] (mkH (uI σ 66 (nI (b + 1)))) := by
          rw [g_Rule_product_8, if_neg (show ¬ (40 : Int32) ≤ nI i from nI_ge (a := i) (b := 40) (by omega) (by decide)), if_neg (show ¬ (1 : Int32) = 0 by decide), c_Rule_product_22 (C_look (d := d) hc), g_Rule_product_25, hc.1, nI_1]
          rcases hop with z | z
          · rw [if_pos z]
          · rw [if_neg (by rw [z]; decide), if_pos z]
        rw [pre]
        generalize uI σ 66 (nI (b + 1)) = σ1 at a1 c1 e5 ea r4
        obtain ⟨τ, y, s1, s2, s3, s4, s5⟩ := h3 (d + 1) σ1 u k1 (by omega) c1 r4 (by omega) (by rw [e5]; exact h5)
        rw [c_Rule_product_58 s1]
        rw [ea, e5] at s5
        exact ⟨τ, y, rfl, (a1.wk (by cases u <;> rfl)).tr s2, s3, s4, s5⟩
      have m1' : ∀ (d : Nat) (σ : Sg) (n m : Nat) (x : Int32), min n m = e → 4 * (e - b) + 2 + 6 ≤ d + 1 → RD σ T n m b → sI σ 3215 = -1 → ∃ τ x', ev (d + 1) 40 6 [(0, .ref 50), (1, .int (nI dp)), (2, .int x)] [] (mkH σ) = ev (d + 1) 40 6 [(0, .ref 50), (1, .int (nI dp)), (2, .int (joF (heF T e b) x x'))] [] (mkH τ) ∧ Ag [3214, 3215] σ τ ∧ (ok1 = false → sI τ 3215 = nI q1 ∧ ∃ b, RD τ T n m b) ∧ (ok1 = true → sI τ 3215 = -1 ∧ RD τ T n m q1 ∧ (sI σ 3220 = 1 → ∀ th, (∀ k, k < 6 → sA σ 59 k = th k) → x' = E1 th)) := fun d σ n m x hn hd hr hw => by
        obtain ⟨d, rfl⟩ : ∃ x, d = x + 1 := ⟨d - 1, by omega⟩
        have a1 : Ag [3214] σ (uI σ 3214 (nI (b + 1))) := Ag.I Ag.rf rfl
        have r1 : RD (uI σ 3214 (nI (b + 1))) T n m (b + 1) := hr.nx (by omega) rfl
        have w1 : sI (uI σ 3214 (nI (b + 1))) 3215 = -1 := hw
        have e20 : sI (uI σ 3214 (nI (b + 1))) 3220 = sI σ 3220 := rfl
        have e59 : sA (uI σ 3214 (nI (b + 1))) 59 = sA σ 59 := rfl
        have hh := N_here (d := d) hr
        rw [hn] at hh
        have pre : ev (d + 1 + 1) 40 6 [(0, .ref 50), (1, .int (nI dp)), (2, .int x)] [] (mkH σ) = ev (d + 1 + 1) 40 58 [(0, .ref 50), (1, .int (nI dp)), (2, .int x), (3, .int (if heF T e b = 42 then 1 else 0))] [.int (nI dp), .ref 50] (mkH (uI σ 3214 (nI (b + 1)))) := by
          rw [g_Model_product_6, c_Model_product_7 (N_fine1 (d := d) hw), g_Model_product_10, if_neg (show ¬ (1 : Int32) = 0 by decide), c_Model_product_14 hh, g_Model_product_17]
          rcases hop with z | z
          · rw [if_pos z, c_Model_product_32 hh, g_Model_product_35, if_pos z, if_pos z, hr.2.2.1, nI_1]
          · have nz : ¬ heF T e b = 42 := by rw [z]; decide
            rw [if_neg nz, c_Model_product_23 hh, g_Model_product_26, if_pos z, c_Model_product_32 hh, g_Model_product_35, if_neg nz, if_neg nz, hr.2.2.1, nI_1]
        rw [pre]
        generalize uI σ 3214 (nI (b + 1)) = σ1 at a1 r1 w1 e20 e59
        obtain ⟨τ, x', s1, s2, s3, s4⟩ := h4 (d + 1) σ1 n m hn (by omega) r1 w1
        rw [c_Model_product_58 s1, Mproduct_61 hop]
        rw [e20, e59] at s4
        exact ⟨τ, x', rfl, (a1.wk rfl).tr s2, s3, s4⟩
      cases ok1 with
      | false =>
        refine ⟨false, q1, E0, h1, fun z => (by cases z), fun d σ u k k1 i hd hc h4 hk hi hs h5 h6 => ?_, fun d σ n m x hn hd hr hw hx => ?_⟩
        · obtain ⟨d, rfl⟩ : ∃ x, d = x + 1 := ⟨d - 1, by omega⟩
          obtain ⟨τ, y, s1, s2, s3, rfl, s5⟩ := cl1 d σ u k1 i hd hc h4 hk hi h5
          rw [s1, g_Rule_product_61, cond_false, if_pos rfl, g_Rule_product_8, if_pos (show (0 : Int32) = 0 ∨ (0 : Int32) = 1 from Or.inl rfl), if_pos rfl, ite_self]
          exact RnI.mk ⟨s2, s3, rfl, fun z => (by cases z)⟩
        · obtain ⟨d, rfl⟩ : ∃ x, d = x + 2 := ⟨d - 2, by omega⟩
          obtain ⟨τ, x', s1, s2, s3, s4⟩ := m1' (d + 1) σ n m x hn hd hr hw
          obtain ⟨t1, b', t2⟩ := s3 rfl
          have nw : ¬ sI τ 3215 = -1 := by rw [t1]; exact nI_nm1 (by omega)
          rw [s1, g_Model_product_6, c_Model_product_7 (N_fine0 (d := d) nw), g_Model_product_10, if_pos rfl]
          exact RnI.mk ⟨s2, fun _ => ⟨t1, b', t2⟩, fun z => (by cases z)⟩
      | true =>
        have bq := h2 rfl
        obtain ⟨ok, q, E, g1, g2, g3, g4⟩ := ih q1 (fun th => joF (heF T e b) (E0 th) (E1 th)) (by omega) (by omega) h1
        refine ⟨ok, q, E, g1, fun z => by have := g2 z; omega, fun d σ u k k1 i hd hc h4 hk hi hs h5 h6 => ?_, fun d σ n m x hn hd hr hw hx => ?_⟩
        · obtain ⟨d, rfl⟩ : ∃ x, d = x + 2 := ⟨d - 2, by omega⟩
          obtain ⟨τ, y, s1, s2, s3, rfl, s5⟩ := cl1 (d + 1) σ u k1 i hd hc h4 hk hi h5
          obtain ⟨k2, z1', z2, z3, z4, z5, z6⟩ := s5 rfl
          have kk := hs.1
          have kl := z3.1
          obtain ⟨ρ, r1, r2, r3, r4, r5, r6⟩ := K_emit (d := d) (s := -(heF T e b)) z1' (by omega) z5
          have a2 : Ag (kRu u) σ ρ := s2.tr (r2.wk (by cases u <;> rfl))
          have sg0 : Seg (sA ρ (ra u 0)) k k1 E0 := hs.cg (fun l l1 l2 => by rw [r4, upN (by omega)]; exact z4 l l2)
          have sg1 : Seg (sA ρ (ra u 0)) k1 k2 E1 := z3.cg (fun l l1 l2 => by rw [r4, upN (by omega)])
          have sg := sg0.jn sg1 (s := -(heF T e b)) (by rw [r4, upS]) c7.1 c7.2.1
          rw [c7.2.2.2] at sg
          rw [s1, g_Rule_product_61, cond_true, if_neg (show ¬ (1 : Int32) = 0 by decide), c_Rule_product_68 r1, g_Rule_product_71, if_neg (show ¬ (1 : Int32) = 0 by decide), nI_1]
          refine (g3 (d + 2) ρ u k (k2 + 1) (i + 1) (by omega) (s3.ag r2 (by cases u <;> rfl)) r3 (by omega) (by omega) sg r5 (fun z => nohr_jo (h6 (z6 (r6 z).1).1) (z6 (r6 z).1).2)).tr a2 (fun j hj => ?_) (fun z => (z6 (r6 z).1).1) (fun k' z => by omega)
          rw [r4, upN (by omega)]; exact z4 j (by omega)
        · obtain ⟨d, rfl⟩ : ∃ x, d = x + 1 := ⟨d - 1, by omega⟩
          obtain ⟨τ, x', s1, s2, s3, s4⟩ := m1' d σ n m x hn hd hr hw
          obtain ⟨t1, t2, t3⟩ := s4 rfl
          rw [s1]
          refine (g4 (d + 1) τ n m _ hn (by omega) t2 t1 (fun w th ht => ?_)).tr s2
          have w' : sI σ 3220 = 1 := (s2.1 3220 rfl).symm.trans w
          have ht' : ∀ k, k < 6 → sA σ 59 k = th k := fun k hk => by rw [← s2.2.1 59 rfl]; exact ht k hk
          rw [hx w' th ht', t3 w' th ht']
    · exact L_product_stop he hbe hop
theorem O_product (he : e ≤ 40) (ha : a ≤ e) (hT : ∀ a', a ≤ a' → a' ≤ e → OC 192 42 1 T e a' dp) : OC 191 40 2 T e a dp := by
  obtain ⟨ok0, q0, E0, h1, h2, h3, h4⟩ := hT a (Nat.le_refl _) ha
  have cl1 : ∀ (d : Nat) (σ : Sg) (u : Bool) (k : Nat), 4 * (e - a) + 2 + 6 ≤ d + 1 → CT σ T e a → sI σ (ri u 4) = nI k → k ≤ a → z1 (sI σ (ri u 5)) → ∃ τ y, ev (d + 1) 191 0 [(0, .ref (ro u)), (1, .int (nI dp))] [] (mkH σ) = ev (d + 1) 191 8 [(0, .ref (ro u)), (1, .int (nI dp)), (2, .int y), (3, .int (nI 0))] [] (mkH τ) ∧ Ag (kRu u) σ τ ∧ CT τ T e q0 ∧ y = (bif ok0 then 1 else 0) ∧ (ok0 = true → ∃ k', sI τ (ri u 4) = nI k' ∧ k' + a ≤ k + q0 ∧ Seg (sA τ (ra u 0)) k k' E0 ∧ (∀ i, i < k → sA τ (ra u 0) i = sA σ (ra u 0) i) ∧ z1 (sI τ (ri u 5)) ∧ (sI τ (ri u 5) = 0 → sI σ (ri u 5) = 0 ∧ nohr E0)) := fun d σ u k hd hc h4 hk h5 => by
    obtain ⟨τ, y, s1, s2, s3, s4, s5⟩ := h3 d σ u k (by omega) hc h4 hk h5
    rw [g_Rule_product_0, c_Rule_product_2 s1, g_Rule_product_5]
    exact ⟨τ, y, rfl, s2, s3, s4, s5⟩
  have m1' : ∀ (d : Nat) (σ : Sg) (n m : Nat), min n m = e → 4 * (e - a) + 2 + 6 ≤ d + 1 → RD σ T n m a → sI σ 3215 = -1 → ∃ τ x, ev (d + 1) 40 0 [(0, .ref 50), (1, .int (nI dp))] [] (mkH σ) = ev (d + 1) 40 6 [(0, .ref 50), (1, .int (nI dp)), (2, .int x)] [] (mkH τ) ∧ Ag [3214, 3215] σ τ ∧ (ok0 = false → sI τ 3215 = nI q0 ∧ ∃ b, RD τ T n m b) ∧ (ok0 = true → sI τ 3215 = -1 ∧ RD τ T n m q0 ∧ (sI σ 3220 = 1 → ∀ th, (∀ k, k < 6 → sA σ 59 k = th k) → x = E0 th)) := fun d σ n m hn hd hr hw => by
    obtain ⟨τ, x, s1, s2, s3, s4⟩ := h4 d σ n m hn (by omega) hr hw
    rw [g_Model_product_0, c_Model_product_2 s1, g_Model_product_5]
    exact ⟨τ, x, rfl, s2, s3, s4⟩
  cases ok0 with
  | false =>
    refine ⟨false, q0, E0, h1, fun z => (by cases z), fun d σ u k hd hc h4 hk h5 => ?_, fun d σ n m hn hd hr hw => ?_⟩
    · obtain ⟨d, rfl⟩ : ∃ x, d = x + 1 := ⟨d - 1, by omega⟩
      obtain ⟨τ, y, s1, s2, s3, rfl, s5⟩ := cl1 d σ u k hd hc h4 hk h5
      rw [s1, cond_false, g_Rule_product_8, if_pos (show (0 : Int32) = 0 ∨ (0 : Int32) = 1 from Or.inl rfl), if_pos rfl, ite_self]
      exact RnI.mk ⟨s2, s3, rfl, fun z => (by cases z)⟩
    · obtain ⟨d, rfl⟩ : ∃ x, d = x + 2 := ⟨d - 2, by omega⟩
      obtain ⟨τ, x', s1, s2, s3, s4⟩ := m1' (d + 1) σ n m hn hd hr hw
      obtain ⟨t1, b', t2⟩ := s3 rfl
      have nw : ¬ sI τ 3215 = -1 := by rw [t1]; exact nI_nm1 (by omega)
      rw [s1, g_Model_product_6, c_Model_product_7 (N_fine0 (d := d) nw), g_Model_product_10, if_pos rfl]
      exact RnI.mk ⟨s2, fun _ => ⟨t1, b', t2⟩, fun z => (by cases z)⟩
  | true =>
    have aq := h2 rfl
    obtain ⟨ok, q, E, g1, g2, g3, g4⟩ := L_product he hT 40 q0 E0 (by omega) (by omega) h1
    refine ⟨ok, q, E, g1, fun z => by have := g2 z; omega, fun d σ u k hd hc h4 hk h5 => ?_, fun d σ n m hn hd hr hw => ?_⟩
    · obtain ⟨d, rfl⟩ : ∃ x, d = x + 1 := ⟨d - 1, by omega⟩
      obtain ⟨τ, y, s1, s2, s3, rfl, s5⟩ := cl1 d σ u k hd hc h4 hk h5
      obtain ⟨k1, z1', z2, z3, z4, z5, z6⟩ := s5 rfl
      rw [s1, cond_true]
      exact (g3 (d + 1) τ u k k1 0 (by omega) s3 z1' (by omega) (by omega) z3 z5 (fun z => (z6 z).2)).tr s2 z4 (fun z => (z6 z).1) (fun k' z => by omega)
    · obtain ⟨d, rfl⟩ : ∃ x, d = x + 1 := ⟨d - 1, by omega⟩
      obtain ⟨τ, x, s1, s2, s3, s4⟩ := m1' d σ n m hn hd hr hw
      obtain ⟨t1, t2, t3⟩ := s4 rfl
      rw [s1]
      refine (g4 (d + 1) τ n m x hn (by omega) t2 t1 (fun w th ht => t3 ((s2.1 3220 rfl).symm.trans w) th (fun k hk => by rw [← s2.2.1 59 rfl]; exact ht k hk))).tr s2
theorem L_sum_stop {E0 : (Nat → Int32) → Int32} (he : e ≤ 40) (hbe : b ≤ e) (ne : ¬ (heF T e b = 43 ∨ heF T e b = 45)) : ∃ ok q E, q ≤ e ∧ (ok = true → b ≤ q) ∧
    (∀ d σ u k k1 i, 4 * (e - b) + 3 + 6 ≤ d → CT σ T e b → sI σ (ri u 4) = nI k1 → k1 ≤ b → i ≤ b → Seg (sA σ (ra u 0)) k k1 E0 → z1 (sI σ (ri u 5)) → (sI σ (ri u 5) = 0 → nohr E0) → CPL T e b k k1 u σ ok q E (ev d 190 8 [(0, .ref (ro u)), (1, .int (nI dp)), (2, .int 1), (3, .int (nI i))] [] (mkH σ))) ∧
    (∀ d σ n m x, min n m = e → 4 * (e - b) + 3 + 6 ≤ d → RD σ T n m b → sI σ 3215 = -1 → (sI σ 3220 = 1 → ∀ th, (∀ k, k < 6 → sA σ 59 k = th k) → x = E0 th) → MPL T n m σ ok q E (ev d 39 6 [(0, .ref 50), (1, .int (nI dp)), (2, .int x)] [] (mkH σ))) := by
  refine ⟨true, b, E0, hbe, fun _ => Nat.le_refl _, fun d σ u k k1 i hd hc h4 hk hi hs h5 h6 => ?_, fun d σ n m x hn hd hr hw hx => ?_⟩
  · obtain ⟨d, rfl⟩ : ∃ x, d = x + 2 := ⟨d - 2, by omega⟩
    rw [g_Rule_sum_8, if_pos (show (1 : Int32) = 0 ∨ (1 : Int32) = 1 from Or.inr rfl), if_neg (show ¬ (1 : Int32) = 0 by decide), c_Rule_sum_22 (C_look (d := d) hc), g_Rule_sum_25, if_neg (fun z => ne (Or.inl z)), if_neg (fun z => ne (Or.inr z)), ite_self]
    exact RnI.mk ⟨Ag.rf, hc, rfl, fun _ => ⟨k1, h4, Nat.le_refl _, hs, fun i hi => rfl, h5, fun z => ⟨z, h6 z⟩⟩⟩
  · obtain ⟨d, rfl⟩ : ∃ x, d = x + 2 := ⟨d - 2, by omega⟩
    have hh := N_here (d := d) hr
    rw [hn] at hh
    rw [g_Model_sum_6, c_Model_sum_7 (N_fine1 (d := d) hw), g_Model_sum_10, if_neg (show ¬ (1 : Int32) = 0 by decide), c_Model_sum_14 hh, g_Model_sum_17, if_neg (fun z => ne (Or.inl z)), c_Model_sum_23 hh, g_Model_sum_26, if_neg (fun z => ne (Or.inr z))]
    exact RnI.mk ⟨Ag.rf, fun z => (by cases z), fun _ => ⟨hw, hr, hx⟩⟩
theorem Msum_61 {c r x x1 : Int32} (hc : c = 43 ∨ c = 45) : ev (d + 1) 39 61 [(0, .ref 50), (1, .int x1), (2, .int x), (3, .int (if c = 43 then 1 else 0))] [.int r] (mkH σ) = ev (d + 1) 39 6 [(0, .ref 50), (1, .int x1), (2, .int (joF c x r))] [] (mkH σ) := by
  rw [g_Model_sum_61]
  rcases hc with h | h
  · subst h
    rw [if_pos rfl, if_neg (show ¬ (1 : Int32) = 0 by decide)]
    rfl
  · subst h
    rw [if_neg (show ¬ (45 : Int32) = 43 by decide), if_pos rfl]
    rfl
/-- the signs behind it -/
theorem L_sum (he : e ≤ 40) {b0 : Nat} (hT : ∀ a', b0 ≤ a' → a' ≤ e → OC 191 40 2 T e a' dp) : ∀ (nn b : Nat) (E0 : (Nat → Int32) → Int32), b0 ≤ b → e ≤ b + nn → b ≤ e → ∃ ok q E, q ≤ e ∧ (ok = true → b ≤ q) ∧
    (∀ d σ u k k1 i, 4 * (e - b) + 3 + 6 ≤ d → CT σ T e b → sI σ (ri u 4) = nI k1 → k1 ≤ b → i ≤ b → Seg (sA σ (ra u 0)) k k1 E0 → z1 (sI σ (ri u 5)) → (sI σ (ri u 5) = 0 → nohr E0) → CPL T e b k k1 u σ ok q E (ev d 190 8 [(0, .ref (ro u)), (1, .int (nI dp)), (2, .int 1), (3, .int (nI i))] [] (mkH σ))) ∧
    (∀ d σ n m x, min n m = e → 4 * (e - b) + 3 + 6 ≤ d → RD σ T n m b → sI σ 3215 = -1 → (sI σ 3220 = 1 → ∀ th, (∀ k, k < 6 → sA σ 59 k = th k) → x = E0 th) → MPL T n m σ ok q E (ev d 39 6 [(0, .ref 50), (1, .int (nI dp)), (2, .int x)] [] (mkH σ))) := by
  intro nn
  induction nn with
  | zero =>
    intro b E0 hb0 hb hbe
    have ne : ¬ (heF T e b = 43 ∨ heF T e b = 45) := by
      unfold heF; rw [if_neg (by omega)]; decide
    exact L_sum_stop he hbe ne
  | succ nn ih =>
    intro b E0 hb0 hb hbe
    by_cases hop : heF T e b = 43 ∨ heF T e b = 45
    · have l : b < e := by
        rcases hop with z | z
        · exact he_lt (j := 43) z (by decide)
        · exact he_lt (j := 45) z (by decide)
      obtain ⟨ok1, q1, E1, h1, h2, h3, h4⟩ := hT (b + 1) (by omega) (by omega)
      have c7 : -(heF T e b) ≤ -7 ∧ ¬ -(heF T e b) = -7 ∧ ¬ -(heF T e b) = -6 ∧ -(-(heF T e b)) = heF T e b := by
        rcases hop with z | z <;> rw [z] <;> decide
      -- the class, behind the sign
      have cl1 : ∀ (d : Nat) (σ : Sg) (u : Bool) (k1 i : Nat), 4 * (e - b) + 3 + 6 ≤ d + 1 → CT σ T e b → sI σ (ri u 4) = nI k1 → k1 ≤ b → i ≤ b → z1 (sI σ (ri u 5)) → ∃ τ y, ev (d + 1) 190 8 [(0, .ref (ro u)), (1, .int (nI dp)), (2, .int 1), (3, .int (nI i))] [] (mkH σ) = ev (d + 1) 190 61 [(0, .ref (ro u)), (1, .int (nI dp)), (2, .int 1), (3, .int (nI i)), (4, .int (heF T e b))] [.int y] (mkH τ) ∧ Ag (kRu u) σ τ ∧ CT τ T e q1 ∧ y = (bif ok1 then 1 else 0) ∧ (ok1 = true → ∃ k', sI τ (ri u 4) = nI k' ∧ k' + (b + 1) ≤ k1 + q1 ∧ Seg (sA τ (ra u 0)) k1 k' E1 ∧ (∀ i, i < k1 → sA τ (ra u 0) i = sA σ (ra u 0) i) ∧ z1 (sI τ (ri u 5)) ∧ (sI τ (ri u 5) = 0 → sI σ (ri u 5) = 0 ∧ nohr E1)) := fun d σ u k1 i hd hc h4 hk hi h5 => by
        obtain ⟨d, rfl⟩ : ∃ x, d = x + 1 := ⟨d - 1, by omega⟩
        have a1 : Ag [66] σ (uI σ 66 (nI (b + 1))) := Ag.I Ag.rf rfl
        have c1 : CT (uI σ 66 (nI (b + 1))) T e (b + 1) := hc.nx (by omega) rfl
        have e5 : sI (uI σ 66 (nI (b + 1))) (ri u 5) = sI σ (ri u 5) := a1.1 (ri u 5) (by cases u <;> rfl)
        have ea : sA (uI σ 66 (nI (b + 1))) (ra u 0) = sA σ (ra u 0) := a1.2.1 (ra u 0) (by cases u <;> rfl)
        have r4 : sI (uI σ 66 (nI (b + 1))) (ri u 4) = nI k1 := (a1.1 (ri u 4) (by cases u <;> rfl)).trans h4
        have pre : ev (d + 1 + 1) 190 8 [(0, .ref (ro u)), (1, .int (nI dp)), (2, .int 1), (3, .int (nI i))] [] (mkH σ) = ev (d + 1 + 1) 190 58 [(0, .ref (ro u)), (1, .int (nI dp)), (2, .int 1), (3, .int (nI i)), (4, .int (heF T e b))] [.int (nI dp), .ref (ro u)] (mkH (uI σ 66 (nI (b + 1)))) := by
          rw [g_Rule_sum_8, if_neg (show ¬ (40 : Int32) ≤ nI i from nI_ge (a := i) (b := 40) (by omega) (by decide)), if_neg (show ¬ (1 : Int32) = 0 by decide), c_Rule_sum_22 (C_look (d := d) hc), g_Rule_sum_25, hc.1, nI_1]
          rcases hop with z | z
          · rw [if_pos z]
          · rw [if_neg (by rw [z]; decide), if_pos z]
        rw [pre]
        generalize uI σ 66 (nI (b + 1)) = σ1 at a1 c1 e5 ea r4
        obtain ⟨τ, y, s1, s2, s3, s4, s5⟩ := h3 (d + 1) σ1 u k1 (by omega) c1 r4 (by omega) (by rw [e5]; exact h5)
        rw [c_Rule_sum_58 s1]
        rw [ea, e5] at s5
        exact ⟨τ, y, rfl, (a1.wk (by cases u <;> rfl)).tr s2, s3, s4, s5⟩
      have m1' : ∀ (d : Nat) (σ : Sg) (n m : Nat) (x : Int32), min n m = e → 4 * (e - b) + 3 + 6 ≤ d + 1 → RD σ T n m b → sI σ 3215 = -1 → ∃ τ x', ev (d + 1) 39 6 [(0, .ref 50), (1, .int (nI dp)), (2, .int x)] [] (mkH σ) = ev (d + 1) 39 6 [(0, .ref 50), (1, .int (nI dp)), (2, .int (joF (heF T e b) x x'))] [] (mkH τ) ∧ Ag [3214, 3215] σ τ ∧ (ok1 = false → sI τ 3215 = nI q1 ∧ ∃ b, RD τ T n m b) ∧ (ok1 = true → sI τ 3215 = -1 ∧ RD τ T n m q1 ∧ (sI σ 3220 = 1 → ∀ th, (∀ k, k < 6 → sA σ 59 k = th k) → x' = E1 th)) := fun d σ n m x hn hd hr hw => by
        obtain ⟨d, rfl⟩ : ∃ x, d = x + 1 := ⟨d - 1, by omega⟩
        have a1 : Ag [3214] σ (uI σ 3214 (nI (b + 1))) := Ag.I Ag.rf rfl
        have r1 : RD (uI σ 3214 (nI (b + 1))) T n m (b + 1) := hr.nx (by omega) rfl
        have w1 : sI (uI σ 3214 (nI (b + 1))) 3215 = -1 := hw
        have e20 : sI (uI σ 3214 (nI (b + 1))) 3220 = sI σ 3220 := rfl
        have e59 : sA (uI σ 3214 (nI (b + 1))) 59 = sA σ 59 := rfl
        have hh := N_here (d := d) hr
        rw [hn] at hh
        have pre : ev (d + 1 + 1) 39 6 [(0, .ref 50), (1, .int (nI dp)), (2, .int x)] [] (mkH σ) = ev (d + 1 + 1) 39 58 [(0, .ref 50), (1, .int (nI dp)), (2, .int x), (3, .int (if heF T e b = 43 then 1 else 0))] [.int (nI dp), .ref 50] (mkH (uI σ 3214 (nI (b + 1)))) := by
          rw [g_Model_sum_6, c_Model_sum_7 (N_fine1 (d := d) hw), g_Model_sum_10, if_neg (show ¬ (1 : Int32) = 0 by decide), c_Model_sum_14 hh, g_Model_sum_17]
          rcases hop with z | z
          · rw [if_pos z, c_Model_sum_32 hh, g_Model_sum_35, if_pos z, if_pos z, hr.2.2.1, nI_1]
          · have nz : ¬ heF T e b = 43 := by rw [z]; decide
            rw [if_neg nz, c_Model_sum_23 hh, g_Model_sum_26, if_pos z, c_Model_sum_32 hh, g_Model_sum_35, if_neg nz, if_neg nz, hr.2.2.1, nI_1]
        rw [pre]
        generalize uI σ 3214 (nI (b + 1)) = σ1 at a1 r1 w1 e20 e59
        obtain ⟨τ, x', s1, s2, s3, s4⟩ := h4 (d + 1) σ1 n m hn (by omega) r1 w1
        rw [c_Model_sum_58 s1, Msum_61 hop]
        rw [e20, e59] at s4
        exact ⟨τ, x', rfl, (a1.wk rfl).tr s2, s3, s4⟩
      cases ok1 with
      | false =>
        refine ⟨false, q1, E0, h1, fun z => (by cases z), fun d σ u k k1 i hd hc h4 hk hi hs h5 h6 => ?_, fun d σ n m x hn hd hr hw hx => ?_⟩
        · obtain ⟨d, rfl⟩ : ∃ x, d = x + 1 := ⟨d - 1, by omega⟩
          obtain ⟨τ, y, s1, s2, s3, rfl, s5⟩ := cl1 d σ u k1 i hd hc h4 hk hi h5
          rw [s1, g_Rule_sum_61, cond_false, if_pos rfl, g_Rule_sum_8, if_pos (show (0 : Int32) = 0 ∨ (0 : Int32) = 1 from Or.inl rfl), if_pos rfl, ite_self]
          exact RnI.mk ⟨s2, s3, rfl, fun z => (by cases z)⟩
        · obtain ⟨d, rfl⟩ : ∃ x, d = x + 2 := ⟨d - 2, by omega⟩
          obtain ⟨τ, x', s1, s2, s3, s4⟩ := m1' (d + 1) σ n m x hn hd hr hw
          obtain ⟨t1, b', t2⟩ := s3 rfl
          have nw : ¬ sI τ 3215 = -1 := by rw [t1]; exact nI_nm1 (by omega)
          rw [s1, g_Model_sum_6, c_Model_sum_7 (N_fine0 (d := d) nw), g_Model_sum_10, if_pos rfl]
          exact RnI.mk ⟨s2, fun _ => ⟨t1, b', t2⟩, fun z => (by cases z)⟩
      | true =>
        have bq := h2 rfl
        obtain ⟨ok, q, E, g1, g2, g3, g4⟩ := ih q1 (fun th => joF (heF T e b) (E0 th) (E1 th)) (by omega) (by omega) h1
        refine ⟨ok, q, E, g1, fun z => by have := g2 z; omega, fun d σ u k k1 i hd hc h4 hk hi hs h5 h6 => ?_, fun d σ n m x hn hd hr hw hx => ?_⟩
        · obtain ⟨d, rfl⟩ : ∃ x, d = x + 2 := ⟨d - 2, by omega⟩
          obtain ⟨τ, y, s1, s2, s3, rfl, s5⟩ := cl1 (d + 1) σ u k1 i hd hc h4 hk hi h5
          obtain ⟨k2, z1', z2, z3, z4, z5, z6⟩ := s5 rfl
          have kk := hs.1
          have kl := z3.1
          obtain ⟨ρ, r1, r2, r3, r4, r5, r6⟩ := K_emit (d := d) (s := -(heF T e b)) z1' (by omega) z5
          have a2 : Ag (kRu u) σ ρ := s2.tr (r2.wk (by cases u <;> rfl))
          have sg0 : Seg (sA ρ (ra u 0)) k k1 E0 := hs.cg (fun l l1 l2 => by rw [r4, upN (by omega)]; exact z4 l l2)
          have sg1 : Seg (sA ρ (ra u 0)) k1 k2 E1 := z3.cg (fun l l1 l2 => by rw [r4, upN (by omega)])
          have sg := sg0.jn sg1 (s := -(heF T e b)) (by rw [r4, upS]) c7.1 c7.2.1
          rw [c7.2.2.2] at sg
          rw [s1, g_Rule_sum_61, cond_true, if_neg (show ¬ (1 : Int32) = 0 by decide), c_Rule_sum_68 r1, g_Rule_sum_71, if_neg (show ¬ (1 : Int32) = 0 by decide), nI_1]
          refine (g3 (d + 2) ρ u k (k2 + 1) (i + 1) (by omega) (s3.ag r2 (by cases u <;> rfl)) r3 (by omega) (by omega) sg r5 (fun z => nohr_jo (h6 (z6 (r6 z).1).1) (z6 (r6 z).1).2)).tr a2 (fun j hj => ?_) (fun z => (z6 (r6 z).1).1) (fun k' z => by omega)
          rw [r4, upN (by omega)]; exact z4 j (by omega)
        · obtain ⟨d, rfl⟩ : ∃ x, d = x + 1 := ⟨d - 1, by omega⟩
          obtain ⟨τ, x', s1, s2, s3, s4⟩ := m1' d σ n m x hn hd hr hw
          obtain ⟨t1, t2, t3⟩ := s4 rfl
          rw [s1]
          refine (g4 (d + 1) τ n m _ hn (by omega) t2 t1 (fun w th ht => ?_)).tr s2
          have w' : sI σ 3220 = 1 := (s2.1 3220 rfl).symm.trans w
          have ht' : ∀ k, k < 6 → sA σ 59 k = th k := fun k hk => by rw [← s2.2.1 59 rfl]; exact ht k hk
          rw [hx w' th ht', t3 w' th ht']
    · exact L_sum_stop he hbe hop
theorem O_sum (he : e ≤ 40) (ha : a ≤ e) (hT : ∀ a', a ≤ a' → a' ≤ e → OC 191 40 2 T e a' dp) : OC 190 39 3 T e a dp := by
  obtain ⟨ok0, q0, E0, h1, h2, h3, h4⟩ := hT a (Nat.le_refl _) ha
  have cl1 : ∀ (d : Nat) (σ : Sg) (u : Bool) (k : Nat), 4 * (e - a) + 3 + 6 ≤ d + 1 → CT σ T e a → sI σ (ri u 4) = nI k → k ≤ a → z1 (sI σ (ri u 5)) → ∃ τ y, ev (d + 1) 190 0 [(0, .ref (ro u)), (1, .int (nI dp))] [] (mkH σ) = ev (d + 1) 190 8 [(0, .ref (ro u)), (1, .int (nI dp)), (2, .int y), (3, .int (nI 0))] [] (mkH τ) ∧ Ag (kRu u) σ τ ∧ CT τ T e q0 ∧ y = (bif ok0 then 1 else 0) ∧ (ok0 = true → ∃ k', sI τ (ri u 4) = nI k' ∧ k' + a ≤ k + q0 ∧ Seg (sA τ (ra u 0)) k k' E0 ∧ (∀ i, i < k → sA τ (ra u 0) i = sA σ (ra u 0) i) ∧ z1 (sI τ (ri u 5)) ∧ (sI τ (ri u 5) = 0 → sI σ (ri u 5) = 0 ∧ nohr E0)) := fun d σ u k hd hc h4 hk h5 => by
    obtain ⟨τ, y, s1, s2, s3, s4, s5⟩ := h3 d σ u k (by omega) hc h4 hk h5
    rw [g_Rule_sum_0, c_Rule_sum_2 s1, g_Rule_sum_5]
    exact ⟨τ, y, rfl, s2, s3, s4, s5⟩
  have m1' : ∀ (d : Nat) (σ : Sg) (n m : Nat), min n m = e → 4 * (e - a) + 3 + 6 ≤ d + 1 → RD σ T n m a → sI σ 3215 = -1 → ∃ τ x, ev (d + 1) 39 0 [(0, .ref 50), (1, .int (nI dp))] [] (mkH σ) = ev (d + 1) 39 6 [(0, .ref 50), (1, .int (nI dp)), (2, .int x)] [] (mkH τ) ∧ Ag [3214, 3215] σ τ ∧ (ok0 = false → sI τ 3215 = nI q0 ∧ ∃ b, RD τ T n m b) ∧ (ok0 = true → sI τ 3215 = -1 ∧ RD τ T n m q0 ∧ (sI σ 3220 = 1 → ∀ th, (∀ k, k < 6 → sA σ 59 k = th k) → x = E0 th)) := fun d σ n m hn hd hr hw => by
    obtain ⟨τ, x, s1, s2, s3, s4⟩ := h4 d σ n m hn (by omega) hr hw
    rw [g_Model_sum_0, c_Model_sum_2 s1, g_Model_sum_5]
    exact ⟨τ, x, rfl, s2, s3, s4⟩
  cases ok0 with
  | false =>
    refine ⟨false, q0, E0, h1, fun z => (by cases z), fun d σ u k hd hc h4 hk h5 => ?_, fun d σ n m hn hd hr hw => ?_⟩
    · obtain ⟨d, rfl⟩ : ∃ x, d = x + 1 := ⟨d - 1, by omega⟩
      obtain ⟨τ, y, s1, s2, s3, rfl, s5⟩ := cl1 d σ u k hd hc h4 hk h5
      rw [s1, cond_false, g_Rule_sum_8, if_pos (show (0 : Int32) = 0 ∨ (0 : Int32) = 1 from Or.inl rfl), if_pos rfl, ite_self]
      exact RnI.mk ⟨s2, s3, rfl, fun z => (by cases z)⟩
    · obtain ⟨d, rfl⟩ : ∃ x, d = x + 2 := ⟨d - 2, by omega⟩
      obtain ⟨τ, x', s1, s2, s3, s4⟩ := m1' (d + 1) σ n m hn hd hr hw
      obtain ⟨t1, b', t2⟩ := s3 rfl
      have nw : ¬ sI τ 3215 = -1 := by rw [t1]; exact nI_nm1 (by omega)
      rw [s1, g_Model_sum_6, c_Model_sum_7 (N_fine0 (d := d) nw), g_Model_sum_10, if_pos rfl]
      exact RnI.mk ⟨s2, fun _ => ⟨t1, b', t2⟩, fun z => (by cases z)⟩
  | true =>
    have aq := h2 rfl
    obtain ⟨ok, q, E, g1, g2, g3, g4⟩ := L_sum he hT 40 q0 E0 (by omega) (by omega) h1
    refine ⟨ok, q, E, g1, fun z => by have := g2 z; omega, fun d σ u k hd hc h4 hk h5 => ?_, fun d σ n m hn hd hr hw => ?_⟩
    · obtain ⟨d, rfl⟩ : ∃ x, d = x + 1 := ⟨d - 1, by omega⟩
      obtain ⟨τ, y, s1, s2, s3, rfl, s5⟩ := cl1 d σ u k hd hc h4 hk h5
      obtain ⟨k1, z1', z2, z3, z4, z5, z6⟩ := s5 rfl
      rw [s1, cond_true]
      exact (g3 (d + 1) τ u k k1 0 (by omega) s3 z1' (by omega) (by omega) z3 z5 (fun z => (z6 z).2)).tr s2 z4 (fun z => (z6 z).1) (fun k' z => by omega)
    · obtain ⟨d, rfl⟩ : ∃ x, d = x + 1 := ⟨d - 1, by omega⟩
      obtain ⟨τ, x, s1, s2, s3, s4⟩ := m1' d σ n m hn hd hr hw
      obtain ⟨t1, t2, t3⟩ := s4 rfl
      rw [s1]
      refine (g4 (d + 1) τ n m x hn (by omega) t2 t1 (fun w th ht => t3 ((s2.1 3220 rfl).symm.trans w) th (fun k hk => by rw [← s2.2.1 59 rfl]; exact ht k hk))).tr s2
end R4
