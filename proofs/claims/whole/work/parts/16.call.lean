/-! Contracts of the methods, and calls by them -/
def ax_rm (d mc ms : Nat) : Room := { frames := 2 * d + 20, cells := mc, slots := ms, locals := 80 * d + 200 }
def ax_ws (M : ax_M) : List Cond := .code M.1 M.2.1 M.2.2.1 M.2.2.2.1 :: lw_g
def ax_PP (D : va_G) (dA : FieldType → ClassId) (ro : Nat → Nat) (X : Nat × (Nat → Int32)) (H : ax_H) (ad : List Nat) (sz : Nat) : State → Prop := fun U =>
  U.heap.size = sz ∧ va_P D vwCl (ax_cw dA ad ro H.1) U.heap ∧ va_D (fun _ => True) (ax_cw dA ad ro H.1) ∧ ax_St D dA ro X (va_A (ax_cw dA ad ro H.1) sz) U U.heap
def ax_QQ (D : va_G) (dA : FieldType → ClassId) (ro : Nat → Nat) (X : Nat × (Nat → Int32)) (ad : List Nat) (A : Nat → Prop) (H' : ax_H) (v : Option Value) : Array Value → State → Outcome → State → Prop := fun _ st oc t =>
  ∃ ex : List Nat, oc = .returned (v.map (ax_cv (ad ++ ex) ro)) ∧ va_P D vwCl (ax_cw dA (ad ++ ex) ro H'.1) t.heap ∧ va_D A (ax_cw dA (ad ++ ex) ro H'.1) ∧ (ad ++ ex).length = H'.1.length ∧ H'.1.length ≤ 1000000 ∧ H'.2.2 = X ∧ va_F A st t
/-- what the methods do, calls d deep, the JVM does -/
def ax_Snd (l : Launch) (d : Nat) : Prop := ∀ (j : Nat) (M : ax_M), ax_mt[j]? = some M → M.1.cls ≠ "BargesByBreathLaw" → M.1.cls ≠ "java/lang/Math" → ∀ (vs : List Value) (H H' : ax_H) (v : Option Value), ev d j 0 (ax_arg 0 vs) [] H = some (H', some v) → ax_wid vs ≤ M.2.2.1 →
  ∀ (D : va_G) (dA : FieldType → ClassId) (ro : Nat → Nat) (X : Nat × (Nat → Int32)) (ad : List Nat) (sz : Nat), ad.length = H.1.length → H.1.length ≤ 1000000 → H.2.2 = X →
  Met l M.1 (ax_ws M) (ax_rm d (H'.2.1.1 - H.2.1.1) (H'.2.1.2 - H.2.1.2)) (va_Pc (vs.map (ax_cv ad ro)) (ax_PP D dA ro X H ad sz)) (ax_QQ D dA ro X ad (va_A (ax_cw dA ad ro H.1) sz) H' v) (H'.2.1.1 - H.2.1.1) (H'.2.1.2 - H.2.1.2) (va_A (ax_cw dA ad ro H.1) sz)
theorem ax_xw_go {s U : State} {w : Cond} (hW : s.WarmedH U.vm) (hw : w ∈ ax_xw) (h : va_Nw w s) : va_Nw w U := by
  simp only [ax_xw, List.mem_cons, List.not_mem_nil, or_false] at hw
  rcases hw with rfl | rfl | rfl | rfl
  · exact va_Nw.warmC hW h
  · exact va_Nw.warmD hW h
  · exact va_Nw.warmD hW h
  · exact va_Nw.warmD hW h
/-- the facts beside the cells go on to a callee -/
theorem ax_St_go {D : va_G} {dA : FieldType → ClassId} {ro : Nat → Nat} {X : Nat × (Nat → Int32)} {A B : Nat → Prop} {s U : State} {Hm : Heap} (h : ax_St D dA ro X A s s.heap) (hq : ∀ a : Nat, a < s.heap.size → ¬ A a → Hm[a]? = s.heap[a]?) (hAB : ∀ q, B q → A q) (hW : s.WarmedH U.vm) : ax_St D dA ro X B U Hm := by
  obtain ⟨h1, h2, h3, h4, ⟨h5, h6⟩, h7, h8⟩ := h
  have hvm := hW.alike
  refine ⟨va_K.moved hvm h1, fun w hw => ?_, ((h3.kept hq).narrow hAB).moved hvm, fun k ty n f hr => ⟨(((h4 k ty n f hr).1.kept hq).narrow hAB).moved hvm, (((h4 k ty n f hr).2.kept hq).narrow hAB).moved hvm⟩, ⟨((h5.kept hq).narrow hAB).moved hvm, ((h6.kept hq).narrow hAB).moved hvm⟩, fun w hw => ax_xw_go hW hw (h7 w hw), fun q hq => (h8 q hq).imp fun sa h => vk_R.warm hW h⟩
  have hz := h2 w hw
  have hkind : ∃ a i x b, w = Cond.methodLinkNest a i x b := by
    have : ∀ w ∈ ax_nest, ∃ a i x b, w = Cond.methodLinkNest a i x b := by
      intro w hw
      simp only [ax_nest, List.mem_cons, List.not_mem_nil, or_false] at hw
      rcases hw with rfl | rfl | rfl | rfl | rfl <;> exact ⟨_, _, _, _, rfl⟩
    exact this w hw
  obtain ⟨a, i, x, b, rfl⟩ := hkind
  exact va_Nw.warmM hW hz
theorem ax_blind {D : va_G} {dA : FieldType → ClassId} {ro : Nat → Nat} {X : Nat × (Nat → Int32)} {H : ax_H} {ad : List Nat} {sz : Nat} {av : List Value} : FrameBlind (va_Pc av (ax_PP D dA ro X H ad sz)) := by
  intro a U g mk q
  obtain ⟨q0, q1, q2, q3, q4⟩ := q
  exact ⟨q0, q1, q2, q3, ax_St_go (s := U) (U := U.calling g mk a) (Hm := U.heap) q4 (fun _ _ _ => rfl) (fun _ h => h) (State.WarmedH.refl U)⟩
theorem ax_wid_sl : ∀ vs : List Value, (lg_sl vs).length = (vs.map fun v => v.category).sum
  | [] => rfl
  | v :: r => by
    have ih := ax_wid_sl r
    unfold lg_sl at ih ⊢
    rw [List.flatMap_cons, List.length_append, ih, List.map_cons, List.sum_cons]
    rcases lv_cat v with h | h
    · rw [if_neg (by omega), h]; rfl
    · rw [if_pos h, h]; rfl
theorem ax_arg_cl {ad : List Nat} {ro : Nat → Nat} : ∀ (vs : List Value) (i : Nat), ax_cl ad ro (ax_arg i vs) = lv_args i (vs.map (ax_cv ad ro))
  | [], _ => rfl
  | v :: r, i => by
    have ih := ax_arg_cl (ad := ad) (ro := ro) r (i + v.category)
    show (i, ax_cv ad ro v) :: ax_cl ad ro (ax_arg (i + v.category) r) = (i, ax_cv ad ro v) :: lv_args (if (ax_cv ad ro v).category = 2 then i + 2 else i + 1) (r.map (ax_cv ad ro))
    rw [ih, ax_cv_cat]
    rcases lv_cat v with h | h
    · rw [if_neg (by omega), h]
    · rw [if_pos h, h]
theorem ax_pop_inv : ∀ {n : Nat} {as S as' r : List Value}, ax_pop n as S = some (as', r) → ∃ bs, bs.length = n ∧ S = bs ++ r ∧ as' = bs.reverse ++ as
  | 0, as, S, as', r, h => by
    unfold ax_pop at h
    cases h
    exact ⟨[], rfl, rfl, rfl⟩
  | n + 1, as, [], as', r, h => by unfold ax_pop at h; cases h
  | n + 1, as, v :: S, as', r, h => by
    unfold ax_pop at h
    obtain ⟨bs, h1, h2, h3⟩ := ax_pop_inv h
    exact ⟨v :: bs, by simp [h1], by simp [h2], by simp [h3]⟩
section AXC
variable {p : Program} {l : Launch} {e : Env} {R : Room} {s : State} {m : MethodId} {args : Array Value} {below : List Frame} {meth : Method} {c : Code} {Q : State → Prop}
variable {ad0 : List Nat} {D : va_G} {dA : FieldType → ClassId} {ro : Nat → Nat} {X : Nat × (Nat → Int32)} {A : Nat → Prop} {M : ax_M} {d c0 s0 : Nat}
variable {pc len r1 r2 r3 : Nat} {L : ax_L} {S : List Value} {H : ax_H} {Hm : Heap} {locs : List Loc} {cells slots : Nat} {ls : Array Slot} {ad : List Nat} {q : ax_S}
theorem ax_kp_ext {ad ex : List Nat} {ro : Nat → Nat} {L : ax_L} {r : List Value} {H H' : ax_H} (had : ad.length = H.1.length) (had' : (ad ++ ex).length = H'.1.length) (h : ax_kp L r H H' = true) : ax_cl (ad ++ ex) ro L = ax_cl ad ro L ∧ r.map (ax_cv (ad ++ ex) ro) = r.map (ax_cv ad ro) := by
  unfold ax_kp at h
  rcases Bool.or_eq_true_iff.mp h with h | h
  · have e1 : H'.1.length = H.1.length := Nat.eq_of_beq_eq_true h
    have e2 : ex = [] := by
      rw [List.length_append] at had'
      exact List.eq_nil_of_length_eq_zero (by omega)
    subst e2
    rw [List.append_nil]
    exact ⟨rfl, rfl⟩
  · simp only [ax_vl, Bool.and_eq_true] at h
    exact ⟨ax_cl_ext ex (by rw [had]; exact h.1), ax_map_ext ex (by rw [had]; exact h.2)⟩
/-- behind a call that has returned -/
theorem ax_ret_W {mx : Nat} {H' : ax_H} {v : Option Value} {r : List Value} {st0 : List Value} {a9 : Array Value} (V : ax_IV D dA ro X A s mx c0 s0 ad0 L H Hm locs cells slots ls ad) (hA : ∀ q, s.heap.size ≤ q → A q)
    (hr : va_Run p l e R s m args below meth c Hm locs cells slots (H'.2.1.1 - H.2.1.1) (H'.2.1.2 - H.2.1.2) (F0 m pc ls st0) (r.map (ax_cv ad ro)) (ax_QQ D dA ro X ad (va_A (ax_cw dA ad ro H.1) Hm.size) H' v a9) (va_A (ax_cw dA ad ro H.1) Hm.size))
    (hle' : ax_le H H') (hkp : ax_kp L r H H' = true) (kk : ax_KK p l e R s m args below meth c Q D dA ro X A mx c0 s0 ad0 (pc + 3, L, v.toList ++ r, H')) : W p l e R s m args below meth c Hm locs cells slots Q (F0 m pc ls st0) := by
  obtain ⟨hP, hD, hS, hl, had, hle, hX, hcc, hss, ex0, hpre⟩ := V
  have hsub : ∀ q, va_A (ax_cw dA ad ro H.1) Hm.size q → A q := fun q h => by
    rcases h with ⟨k, e9, h⟩ | h
    · exact hD.2 k (q, e9) h
    · exact hA q (Nat.le_trans hS.1 h)
  intro T hT X9
  obtain ⟨v9, st₀, t, T', L9, h0, X', hL9, e1, e2, ⟨ex, ho, p1, d1, l1, l2, x1, hz, hk⟩, st⟩ := hr T hT X9
  cases ho
  rw [h0] at hz hk
  obtain ⟨k1, k2⟩ := ax_kp_ext (ro := ro) had l1 hkp
  have hk9 := kk T'.heap (locs ++ L9) (cells + (H'.2.1.1 - H.2.1.1)) (slots + (H'.2.1.2 - H.2.1.2)) ls (ad ++ ex)
    ⟨by rw [e1]; exact p1, d1.weaken (fun k q _ h => hsub q.1 h), ⟨Nat.le_trans hS.1 (by rw [e1]; exact hz), fun q h1 h2 => by rw [e1, hk q (Nat.lt_of_lt_of_le h1 hS.1) (fun z => h2 (hsub q z))]; exact hS.2.1 q h1 h2, fun q hq => by
      rcases List.mem_append.mp hq with h | h
      · exact hS.2.2 q h
      · exact hsub _ (hL9 q h)⟩, by show lv_has ls mx (ax_cl (ad ++ ex) ro L); rw [k1]; exact hl, l1, l2, x1, by have h8 : H.2.1.1 ≤ H'.2.1.1 := hle'.1; show H'.2.1.1 = c0 + (cells + (H'.2.1.1 - H.2.1.1)); omega, by have h8 : H.2.1.2 ≤ H'.2.1.2 := hle'.2; show H'.2.1.2 = s0 + (slots + (H'.2.1.2 - H.2.1.2)); omega, ex0 ++ ex, by rw [hpre, List.append_assoc]⟩
  obtain ⟨t2, a1, b1⟩ := hk9 T' rfl X'
  refine ⟨t2, st t2 ?_, b1⟩
  have e3 : (v.toList ++ r).map (ax_cv (ad ++ ex) ro) = (v.map (ax_cv (ad ++ ex) ro)).toList ++ r.map (ax_cv ad ro) := by
    rw [List.map_append, k2]
    cases v <;> rfl
  rw [← e3]
  exact a1
/-- what a callee is given -/
theorem ax_pre {mx : Nat} (hA : ∀ q, s.heap.size ≤ q → A q) (hSt : ax_St D dA ro X A s s.heap) (V : ax_IV D dA ro X A s mx c0 s0 ad0 L H Hm locs cells slots ls ad) (av : List Value) : ∀ U : State, U.heap = Hm → s.WarmedH U.vm → va_Pc (av.map (ax_cv ad ro)) (ax_PP D dA ro X H ad Hm.size) (av.map (ax_cv ad ro)).toArray U := by
  obtain ⟨hP, hD, hS, hl, had, hle, hX, hcc, hss, hpre⟩ := V
  intro U hU hW
  refine ⟨rfl, by rw [hU], by rw [hU]; exact hP, hD.weaken (fun _ _ _ _ => trivial), ?_⟩
  rw [hU]
  refine ax_St_go hSt hS.2.1 (fun q h => ?_) hW
  rcases h with ⟨k, e9, h⟩ | h
  · exact hD.2 k (q, e9) h
  · exact hA q (Nat.le_trans hS.1 h)
/-- a method that is called: its words and its room -/
theorem ax_callB {M' : ax_M} {own : String} {index n mc ms : Nat} (hts : ∀ w ∈ lw_g, w.before args s = true) (hcd : Cond.code M'.1 M'.2.1 M'.2.2.1 M'.2.2.2.1 ∈ lw_g) (hm : M'.2.2.1 ≤ 21) (hini : (Cond.initialized M'.1.cls).before args s = true) (hl : (Cond.methodLink own index M'.1).before args s = true)
    (hd : M'.1.cls ≠ "java/lang/invoke/MethodHandle" ∧ M'.1.cls ≠ "java/lang/invoke/VarHandle" ∧ (parseMethodDescriptor M'.1.desc).map (fun d => d.parameters.length) = some n) (hf : 2 * (d + 1) + 20 ≤ R.frames) (hlo : 80 * (d + 1) + 200 ≤ R.locals) :
    CallB R s args own index M'.1 M'.2.1 M'.2.2.1 M'.2.2.2.1 (ax_ws M') (ax_rm d mc ms) mc ms n :=
  callB_of n hts (fun w hw => by
    rcases List.mem_cons.mp hw with rfl | hw
    · exact lw_g_good _ hcd
    · exact lw_g_good _ hw) rfl rfl rfl hini hl hd ⟨by show 2 * d + 20 + 1 ≤ R.frames; omega, by show 8 + (M'.2.2.1 + 11) + (80 * d + 200) ≤ R.locals; omega⟩
theorem ax_good_ws {M' : ax_M} (hcd : Cond.code M'.1 M'.2.1 M'.2.2.1 M'.2.2.2.1 ∈ lw_g) : GoodIn lw_g (ax_ws M') := fun w hw => by
  rcases List.mem_cons.mp hw with rfl | hw
  · exact lw_g_good _ hcd
  · exact lw_g_good _ hw
end AXC
theorem ax_ev_none {j : Nat} (h : ax_mt[j]? = none) : ∀ (d pc : Nat) (L : ax_L) (S : List Value) (H : ax_H), ev d j pc L S H = none := by
  intro d pc L S H
  have hat : ∀ pc, ax_at j pc = none := fun pc => by unfold ax_at; rw [h]
  cases d with
  | zero => rfl
  | succ d => rw [ev_eq]; simp only [ax_end, ax_next, hat]
