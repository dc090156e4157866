/-! rules: what is held against another; all of it -/
section R5
variable {d n m a b e k q dp : Nat} {u ok : Bool} {σ σ' τ : Sg} {T : Nat → Int32} {E : (Nat → Int32) → Int32} {x r c : Int32}
theorem M_hop (hr : RD σ T n m q) (hw : sI σ 3215 = -1) (hc : heF T (min n m) q = c) (h3 : c = 60 ∨ c = 62 ∨ c = 61) (hs : ev (d + 2) 39 0 [(0, .ref 50), (1, .int (nI dp))] [] (mkH (uI σ 3214 (nI (q + 1)))) = rI τ r) : ev (d + 3) 38 5 [(0, .ref 50), (1, .int (nI dp))] [.int x] (mkH σ) = rI τ (joF c x r) := by
  have p := fun y => N_passes1 (d := d) (x := y) hr hw
  rw [hc] at p
  rcases h3 with z | z | z
  · subst z
    have p1 := p 60
    rw [if_pos rfl] at p1
    rw [g_Model_held_5, c_Model_held_9 p1, g_Model_held_12, if_neg (show ¬ (1 : Int32) = 0 by decide), c_Model_held_18 hs, g_Model_held_21]
    show _ = rI τ (if r ≤ x then 0 else 1)
    split <;> rfl
  · subst z
    have p1 := p 60
    rw [if_neg (by decide)] at p1
    have p2 := p 62
    rw [if_pos rfl] at p2
    rw [g_Model_held_5, c_Model_held_9 p1, g_Model_held_12, if_pos rfl, c_Model_held_33 p2, g_Model_held_36, if_neg (show ¬ (1 : Int32) = 0 by decide), c_Model_held_42 hs, g_Model_held_45]
    show _ = rI τ (if x ≤ r then 0 else 1)
    split <;> rfl
  · subst z
    have p1 := p 60
    rw [if_neg (by decide)] at p1
    have p2 := p 62
    rw [if_neg (by decide)] at p2
    have p3 := p 61
    rw [if_pos rfl] at p3
    rw [g_Model_held_5, c_Model_held_9 p1, g_Model_held_12, if_pos rfl, c_Model_held_33 p2, g_Model_held_36, if_pos rfl, c_Model_held_57 p3, g_Model_held_60, if_neg (show ¬ (1 : Int32) = 0 by decide), c_Model_held_66 hs, g_Model_held_69]
    show _ = rI τ (if x = r then 1 else 0)
    split <;> rfl
theorem M_hno (hp : ∀ y : Int32, (y = 60 ∨ y = 62 ∨ y = 61) → ev (d + 2) 25 0 [(0, .ref 50), (1, .int y)] [] (mkH σ) = rI σ 0) : ev (d + 3) 38 5 [(0, .ref 50), (1, .int (nI dp))] [.int x] (mkH σ) = rI σ x := by
  rw [g_Model_held_5, c_Model_held_9 (hp 60 (Or.inl rfl)), g_Model_held_12, if_pos rfl, c_Model_held_33 (hp 62 (Or.inr (Or.inl rfl))), g_Model_held_36, if_pos rfl, c_Model_held_57 (hp 61 (Or.inr (Or.inr rfl))), g_Model_held_60, if_pos rfl]
theorem O_held (he : e ≤ 40) (ha : a ≤ e) (hT : ∀ a', a ≤ a' → a' ≤ e → OC 190 39 3 T e a' dp) : OC 189 38 4 T e a dp := by
  obtain ⟨ok0, q0, E0, h1, h2, h3, h4⟩ := hT a (Nat.le_refl _) ha
  have cl1 : ∀ (d : Nat) (σ : Sg) (u : Bool) (k : Nat), 4 * (e - a) + 4 + 6 ≤ d + 1 → CT σ T e a → sI σ (ri u 4) = nI k → k ≤ a → z1 (sI σ (ri u 5)) → ∃ τ y, ev (d + 1) 189 0 [(0, .ref (ro u)), (1, .int (nI dp))] [] (mkH σ) = ev (d + 1) 189 5 [(0, .ref (ro u)), (1, .int (nI dp))] [.int y] (mkH τ) ∧ Ag (kRu u) σ τ ∧ CT τ T e q0 ∧ y = (bif ok0 then 1 else 0) ∧ (ok0 = true → ∃ k', sI τ (ri u 4) = nI k' ∧ k' + a ≤ k + q0 ∧ Seg (sA τ (ra u 0)) k k' E0 ∧ (∀ i, i < k → sA τ (ra u 0) i = sA σ (ra u 0) i) ∧ z1 (sI τ (ri u 5)) ∧ (sI τ (ri u 5) = 0 → sI σ (ri u 5) = 0 ∧ nohr E0)) := fun d σ u k hd hc h4 hk h5 => by
    obtain ⟨τ, y, s1, s2, s3, s4, s5⟩ := h3 d σ u k (by omega) hc h4 hk h5
    rw [g_Rule_comparison_0, c_Rule_comparison_2 s1]
    exact ⟨τ, y, rfl, s2, s3, s4, s5⟩
  have m1' : ∀ (d : Nat) (σ : Sg) (n m : Nat), min n m = e → 4 * (e - a) + 4 + 6 ≤ d + 1 → RD σ T n m a → sI σ 3215 = -1 → ∃ τ x, ev (d + 1) 38 0 [(0, .ref 50), (1, .int (nI dp))] [] (mkH σ) = ev (d + 1) 38 5 [(0, .ref 50), (1, .int (nI dp))] [.int x] (mkH τ) ∧ Ag [3214, 3215] σ τ ∧ (ok0 = false → sI τ 3215 = nI q0 ∧ ∃ b, RD τ T n m b) ∧ (ok0 = true → sI τ 3215 = -1 ∧ RD τ T n m q0 ∧ (sI σ 3220 = 1 → ∀ th, (∀ k, k < 6 → sA σ 59 k = th k) → x = E0 th)) := fun d σ n m hn hd hr hw => by
    obtain ⟨τ, x, s1, s2, s3, s4⟩ := h4 d σ n m hn (by omega) hr hw
    rw [g_Model_held_0, c_Model_held_2 s1]
    exact ⟨τ, x, rfl, s2, s3, s4⟩
  cases ok0 with
  | false =>
    refine ⟨false, q0, E0, h1, fun z => (by cases z), fun d σ u k hd hc h4 hk h5 => ?_, fun d σ n m hn hd hr hw => ?_⟩
    · obtain ⟨d, rfl⟩ : ∃ x, d = x + 1 := ⟨d - 1, by omega⟩
      obtain ⟨τ, y, s1, s2, s3, rfl, s5⟩ := cl1 d σ u k hd hc h4 hk h5
      rw [s1, cond_false, g_Rule_comparison_5, if_pos rfl]
      exact RnI.mk ⟨s2, s3, rfl, fun z => (by cases z)⟩
    · obtain ⟨d, rfl⟩ : ∃ x, d = x + 3 := ⟨d - 3, by omega⟩
      obtain ⟨τ, x', s1, s2, s3, s4⟩ := m1' (d + 2) σ n m hn hd hr hw
      obtain ⟨t1, b', t2⟩ := s3 rfl
      have nw : ¬ sI τ 3215 = -1 := by rw [t1]; exact nI_nm1 (by omega)
      rw [s1, M_hno (fun y _ => N_passes0 nw)]
      exact RnI.mk ⟨s2, fun _ => ⟨t1, b', t2⟩, fun z => (by cases z)⟩
  | true =>
    have aq := h2 rfl
    by_cases hop : heF T e q0 = 60 ∨ heF T e q0 = 62 ∨ heF T e q0 = 61
    · have l : q0 < e := by
        rcases hop with z | z | z
        · exact he_lt (j := 60) z (by decide)
        · exact he_lt (j := 62) z (by decide)
        · exact he_lt (j := 61) z (by decide)
      have c7 : -(heF T e q0) ≤ -7 ∧ ¬ -(heF T e q0) = -7 ∧ ¬ -(heF T e q0) = -6 ∧ -(-(heF T e q0)) = heF T e q0 := by
        rcases hop with z | z | z <;> rw [z] <;> decide
      obtain ⟨ok1, q1, E1, g1, g2, g3, g4⟩ := hT (q0 + 1) (by omega) (by omega)
      -- the class, behind the sign
      have cl2 : ∀ (d : Nat) (σ : Sg) (u : Bool) (k1 : Nat), 4 * (e - a) + 4 + 6 ≤ d + 2 → CT σ T e q0 → sI σ (ri u 4) = nI k1 → k1 ≤ q0 → z1 (sI σ (ri u 5)) → ∃ τ y, ev (d + 2) 189 5 [(0, .ref (ro u)), (1, .int (nI dp))] [.int 1] (mkH σ) = ev (d + 2) 189 56 [(0, .ref (ro u)), (1, .int (nI dp)), (2, .int (heF T e q0))] [.int y] (mkH τ) ∧ Ag (kRu u) σ τ ∧ CT τ T e q1 ∧ y = (bif ok1 then 1 else 0) ∧ (ok1 = true → ∃ k', sI τ (ri u 4) = nI k' ∧ k' + (q0 + 1) ≤ k1 + q1 ∧ Seg (sA τ (ra u 0)) k1 k' E1 ∧ (∀ i, i < k1 → sA τ (ra u 0) i = sA σ (ra u 0) i) ∧ z1 (sI τ (ri u 5)) ∧ (sI τ (ri u 5) = 0 → sI σ (ri u 5) = 0 ∧ nohr E1)) := fun d σ u k1 hd hc h4 hk h5 => by
        have a1 : Ag [66] σ (uI σ 66 (nI (q0 + 1))) := Ag.I Ag.rf rfl
        have c1 : CT (uI σ 66 (nI (q0 + 1))) T e (q0 + 1) := hc.nx (by omega) rfl
        have e5 : sI (uI σ 66 (nI (q0 + 1))) (ri u 5) = sI σ (ri u 5) := a1.1 (ri u 5) (by cases u <;> rfl)
        have ea : sA (uI σ 66 (nI (q0 + 1))) (ra u 0) = sA σ (ra u 0) := a1.2.1 (ra u 0) (by cases u <;> rfl)
        have r4 : sI (uI σ 66 (nI (q0 + 1))) (ri u 4) = nI k1 := (a1.1 (ri u 4) (by cases u <;> rfl)).trans h4
        have pre : ev (d + 2) 189 5 [(0, .ref (ro u)), (1, .int (nI dp))] [.int 1] (mkH σ) = ev (d + 2) 189 53 [(0, .ref (ro u)), (1, .int (nI dp)), (2, .int (heF T e q0))] [.int (nI dp), .ref (ro u)] (mkH (uI σ 66 (nI (q0 + 1)))) := by
          rw [g_Rule_comparison_5, if_neg (show ¬ (1 : Int32) = 0 by decide), c_Rule_comparison_14 (C_look (d := d) hc), g_Rule_comparison_17, hc.1, nI_1]
          rcases hop with z | z | z
          · rw [if_pos z]
          · rw [if_neg (by rw [z]; decide), if_pos z]
          · rw [if_neg (by rw [z]; decide), if_neg (by rw [z]; decide), if_pos z]
        rw [pre]
        generalize uI σ 66 (nI (q0 + 1)) = σ1 at a1 c1 e5 ea r4
        obtain ⟨τ, y, s1, s2, s3, s4, s5⟩ := g3 (d + 1) σ1 u k1 (by omega) c1 r4 (by omega) (by rw [e5]; exact h5)
        rw [c_Rule_comparison_53 s1]
        rw [ea, e5] at s5
        exact ⟨τ, y, rfl, (a1.wk (by cases u <;> rfl)).tr s2, s3, s4, s5⟩
      have m2' : ∀ (d : Nat) (σ : Sg) (n m : Nat) (x : Int32), min n m = e → 4 * (e - a) + 4 + 6 ≤ d + 3 → RD σ T n m q0 → sI σ 3215 = -1 → ∃ τ x', ev (d + 3) 38 5 [(0, .ref 50), (1, .int (nI dp))] [.int x] (mkH σ) = rI τ (joF (heF T e q0) x x') ∧ Ag [3214, 3215] σ τ ∧ (ok1 = false → sI τ 3215 = nI q1 ∧ ∃ b, RD τ T n m b) ∧ (ok1 = true → sI τ 3215 = -1 ∧ RD τ T n m q1 ∧ (sI σ 3220 = 1 → ∀ th, (∀ k, k < 6 → sA σ 59 k = th k) → x' = E1 th)) := fun d σ n m x hn hd hr hw => by
        have a1 : Ag [3214] σ (uI σ 3214 (nI (q0 + 1))) := Ag.I Ag.rf rfl
        have r1 : RD (uI σ 3214 (nI (q0 + 1))) T n m (q0 + 1) := hr.nx (by omega) rfl
        have w1 : sI (uI σ 3214 (nI (q0 + 1))) 3215 = -1 := hw
        obtain ⟨τ, x', s1, s2, s3, s4⟩ := g4 (d + 2) (uI σ 3214 (nI (q0 + 1))) n m hn (by omega) r1 w1
        have e20 : sI (uI σ 3214 (nI (q0 + 1))) 3220 = sI σ 3220 := rfl
        have e59 : sA (uI σ 3214 (nI (q0 + 1))) 59 = sA σ 59 := rfl
        rw [e20, e59] at s4
        exact ⟨τ, x', M_hop hr hw (by rw [hn]) hop s1, (a1.wk rfl).tr s2, s3, s4⟩
      cases ok1 with
      | false =>
        refine ⟨false, q1, E0, g1, fun z => (by cases z), fun d σ u k hd hc h4 hk h5 => ?_, fun d σ n m hn hd hr hw => ?_⟩
        · obtain ⟨d, rfl⟩ : ∃ x, d = x + 2 := ⟨d - 2, by omega⟩
          obtain ⟨τ, y, s1, s2, s3, rfl, s5⟩ := cl1 (d + 1) σ u k hd hc h4 hk h5
          obtain ⟨k1, z1', z2, z3, z4, z5, z6⟩ := s5 rfl
          obtain ⟨ω, y, v1, v2, v3, rfl, v5⟩ := cl2 d τ u k1 hd s3 z1' (by omega) z5
          rw [s1, cond_true, v1, cond_false, g_Rule_comparison_56, if_pos rfl]
          exact RnI.mk ⟨s2.tr v2, v3, rfl, fun z => (by cases z)⟩
        · obtain ⟨d, rfl⟩ : ∃ x, d = x + 3 := ⟨d - 3, by omega⟩
          obtain ⟨τ, x, s1, s2, s3, s4⟩ := m1' (d + 2) σ n m hn hd hr hw
          obtain ⟨t1, t2, t3⟩ := s4 rfl
          obtain ⟨ω, x', v1, v2, v3, v4⟩ := m2' d τ n m x hn hd t2 t1
          rw [s1, v1]
          exact RnI.mk ⟨s2.tr v2, v3, fun z => (by cases z)⟩
      | true =>
        have bq := g2 rfl
        refine ⟨true, q1, fun th => joF (heF T e q0) (E0 th) (E1 th), g1, fun _ => by omega, fun d σ u k hd hc h4 hk h5 => ?_, fun d σ n m hn hd hr hw => ?_⟩
        · obtain ⟨d, rfl⟩ : ∃ x, d = x + 2 := ⟨d - 2, by omega⟩
          obtain ⟨τ, y, s1, s2, s3, rfl, s5⟩ := cl1 (d + 1) σ u k hd hc h4 hk h5
          obtain ⟨k1, z1', z2, z3, z4, z5, z6⟩ := s5 rfl
          obtain ⟨ω, y, v1, v2, v3, rfl, v5⟩ := cl2 d τ u k1 hd s3 z1' (by omega) z5
          obtain ⟨k2, y1, y2, y3, y4, y5, y6⟩ := v5 rfl
          have kk := z3.1
          have kl := y3.1
          obtain ⟨ρ, r1, r2, r3, r4, r5, r6⟩ := K_emit (d := d) (s := -(heF T e q0)) y1 (by omega) y5
          have sg0 : Seg (sA ρ (ra u 0)) k k1 E0 := z3.cg (fun l l1 l2 => by rw [r4, upN (by omega)]; exact y4 l l2)
          have sg1 : Seg (sA ρ (ra u 0)) k1 k2 E1 := y3.cg (fun l l1 l2 => by rw [r4, upN (by omega)])
          have sg := sg0.jn sg1 (s := -(heF T e q0)) (by rw [r4, upS]) c7.1 c7.2.1
          rw [c7.2.2.2] at sg
          rw [s1, cond_true, v1, cond_true, g_Rule_comparison_56, if_neg (show ¬ (1 : Int32) = 0 by decide), c_Rule_comparison_62 r1, g_Rule_comparison_65, if_neg (show ¬ (1 : Int32) = 0 by decide)]
          refine RnI.mk ⟨(s2.tr v2).tr (r2.wk (by cases u <;> rfl)), v3.ag r2 (by cases u <;> rfl), rfl, fun _ => ⟨k2 + 1, r3, by omega, sg, fun i hi => ?_, r5, fun z => ?_⟩⟩
          · rw [r4, upN (by omega), y4 i (by omega)]; exact z4 i hi
          · obtain ⟨w1, w2⟩ := y6 (r6 z).1
            exact ⟨(z6 w1).1, nohr_jo (z6 w1).2 w2⟩
        · obtain ⟨d, rfl⟩ : ∃ x, d = x + 3 := ⟨d - 3, by omega⟩
          obtain ⟨τ, x, s1, s2, s3, s4⟩ := m1' (d + 2) σ n m hn hd hr hw
          obtain ⟨t1, t2, t3⟩ := s4 rfl
          obtain ⟨ω, x', v1, v2, v3, v4⟩ := m2' d τ n m x hn hd t2 t1
          obtain ⟨y1, y2, y3⟩ := v4 rfl
          rw [s1, v1]
          refine RnI.mk ⟨s2.tr v2, fun z => (by cases z), fun _ => ⟨y1, y2, fun w th ht => ?_⟩⟩
          rw [t3 w th ht, y3 ((s2.1 3220 rfl).trans w) th (fun k hk => by rw [s2.2.1 59 rfl]; exact ht k hk)]
    · refine ⟨true, q0, E0, h1, fun _ => aq, fun d σ u k hd hc h4 hk h5 => ?_, fun d σ n m hn hd hr hw => ?_⟩
      · obtain ⟨d, rfl⟩ : ∃ x, d = x + 2 := ⟨d - 2, by omega⟩
        obtain ⟨τ, y, s1, s2, s3, rfl, s5⟩ := cl1 (d + 1) σ u k hd hc h4 hk h5
        rw [s1, cond_true, g_Rule_comparison_5, if_neg (show ¬ (1 : Int32) = 0 by decide), c_Rule_comparison_14 (C_look (d := d) s3), g_Rule_comparison_17, if_neg (fun z => hop (Or.inl z)), if_neg (fun z => hop (Or.inr (Or.inl z))), if_neg (fun z => hop (Or.inr (Or.inr z)))]
        exact RnI.mk ⟨s2, s3, rfl, s5⟩
      · obtain ⟨d, rfl⟩ : ∃ x, d = x + 3 := ⟨d - 3, by omega⟩
        obtain ⟨τ, x, s1, s2, s3, s4⟩ := m1' (d + 2) σ n m hn hd hr hw
        obtain ⟨t1, t2, t3⟩ := s4 rfl
        rw [s1, M_hno (fun y hy => ?_)]
        · exact RnI.mk ⟨s2, fun z => (by cases z), fun _ => ⟨t1, t2, t3⟩⟩
        · have p1 := N_passes1 (d := d) (x := y) t2 t1
          rw [if_neg (by
            rw [hn]
            intro z
            rcases hy with w | w | w
            · exact hop (Or.inl (z.trans w))
            · exact hop (Or.inr (Or.inl (z.trans w)))
            · exact hop (Or.inr (Or.inr (z.trans w))))] at p1
          exact p1
theorem O_step (he : e ≤ 40) (ha : a ≤ e) (h : ∀ a', a < a' → a' ≤ e → ∀ dp, dp ≤ 4 → OT T e a' dp ∧ OC 189 38 4 T e a' dp) : ∀ dp, dp ≤ 4 → OT T e a dp ∧ OC 189 38 4 T e a dp := by
  intro dp hdp
  have ht : OT T e a dp := O_thing he ha hdp (fun l => (h (a + 1) (by omega) (by omega) dp hdp).1) (fun l hd => (h (a + 1) (by omega) (by omega) (dp + 1) (by omega)).2)
  have t1 : ∀ a', a ≤ a' → a' ≤ e → OC 192 42 1 T e a' dp := fun a' h1 h2 => by
    rcases Nat.eq_or_lt_of_le h1 with z | z
    · subst z; exact ht.oc
    · exact (h a' z h2 dp hdp).1.oc
  have t2 : ∀ a', a ≤ a' → a' ≤ e → OC 191 40 2 T e a' dp := fun a' h1 h2 => O_product he h2 (fun a'' h3 h4 => t1 a'' (by omega) h4)
  have t3 : ∀ a', a ≤ a' → a' ≤ e → OC 190 39 3 T e a' dp := fun a' h1 h2 => O_sum he h2 (fun a'' h3 h4 => t2 a'' (by omega) h4)
  exact ⟨ht, O_held he ha t3⟩
theorem O_all (he : e ≤ 40) : ∀ k a, e ≤ a + k → a ≤ e → ∀ dp, dp ≤ 4 → OT T e a dp ∧ OC 189 38 4 T e a dp
  | 0, a, h1, h2 => O_step he h2 (fun a' h3 h4 => absurd h3 (by omega))
  | k + 1, a, h1, h2 => O_step he h2 (fun a' h3 h4 => O_all he k a' (by omega) h4)
theorem O_rule (he : e ≤ 40) : OC 189 38 4 T e 0 0 := (O_all he e 0 (by omega) (by omega) 0 (by omega)).2
end R5
