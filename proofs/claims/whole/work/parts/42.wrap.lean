/-! The three ways in which the law asks for an answer that may be thrown -/
theorem ax_fin_ty {j : Nat} {i : ax_I} {S : List Value} {H H' : ax_H} {v : Option Value} (h : ax_fin j i S H = some (H', some v)) : (ax_ret j = some .int → ∃ x, v = some (.int x)) ∧ (ax_ret j = some .long → ∃ x, v = some (.long x)) := by
  obtain ⟨pc, ins, len, r1, r2, r3⟩ := i
  unfold ax_fin at h
  simp only at h
  split at h
  · split at h
    · cases h; exact ⟨fun _ => ⟨_, rfl⟩, fun z => by simp_all⟩
    · split at h
      · cases h; exact ⟨fun z => by simp_all, fun z => by simp_all⟩
      · cases h
    · cases h
  · split at h
    · cases h; exact ⟨fun z => by simp_all, fun _ => ⟨_, rfl⟩⟩
    · cases h
  · split at h
    · cases h; exact ⟨fun z => by simp_all, fun z => by simp_all⟩
    · cases h
  · split at h
    · cases h; exact ⟨fun z => by simp_all, fun z => by simp_all⟩
    · cases h
  · obtain ⟨-, h⟩ := ax_bif h
    split at h <;> cases h
  · cases h
theorem ax_it_ty {E : ax_F} {j : Nat} {H' : ax_H} {v : Option Value} : ∀ (n pc : Nat) (L : ax_L) (S : List Value) (H : ax_H), ax_it E n j pc L S H = some (H', some v) → (ax_ret j = some .int → ∃ x, v = some (.int x)) ∧ (ax_ret j = some .long → ∃ x, v = some (.long x))
  | 0, _, _, _, _, h => by cases h
  | n + 1, pc, L, S, H, h => by
    simp only [ax_it] at h
    cases h1 : ax_end j pc S H with
    | some r =>
      rw [h1] at h; cases h
      unfold ax_end at h1
      split at h1
      · exact ax_fin_ty h1
      · cases h1
    | none =>
      rw [h1] at h
      cases h2 : ax_next E j pc L S H with
      | none => rw [h2] at h; cases h
      | some q => rw [h2] at h; exact ax_it_ty n q.1 q.2.1 q.2.2.1 q.2.2.2 h
theorem ev_ty {d j pc : Nat} {L : ax_L} {S : List Value} {H H' : ax_H} {v : Option Value} (h : ev d j pc L S H = some (H', some v)) : (ax_ret j = some .int → ∃ x, v = some (.int x)) ∧ (ax_ret j = some .long → ∃ x, v = some (.long x)) := by
  cases d with
  | zero => cases h
  | succ d =>
    obtain ⟨n, hn⟩ := ev_it h
    exact ax_it_ty n pc L S H hn
theorem ax_wrap_inv {r : Option ax_R} {o : Nat} {H' : ax_H} {k : Int32} (h : ax_wrap r o = some (H', k)) : (∃ H1 n f, ax_rowL H1 o = some (n, f) ∧ 0 < n ∧ k = 0 ∧ ((∃ x, r = some (H1, some (some (.int x))) ∧ H' = ax_put H1 o (.inl (.long, n, .inr (.inl (vp_updL f 0 x.toInt64))))) ∨ (∃ x, r = some (H1, some (some (.long x))) ∧ H' = ax_put H1 o (.inl (.long, n, .inr (.inl (vp_updL f 0 x))))))) ∨ (r = some (H', none) ∧ k = 1) := by
  unfold ax_wrap at h
  split at h
  · rename_i H1 v
    split at h
    · rename_i n f hr
      split at h
      · rename_i hn
        split at h
        · cases h; exact Or.inl ⟨H1, n, f, hr, hn, rfl, Or.inl ⟨_, rfl, rfl⟩⟩
        · cases h; exact Or.inl ⟨H1, n, f, hr, hn, rfl, Or.inr ⟨_, rfl, rfl⟩⟩
        · cases h
      · cases h
    · cases h
  · cases h; exact Or.inr ⟨rfl, rfl⟩
  · cases h
theorem ax_ix0 {n : Nat} (h : 0 < n) : ax_ix 0 n = true := decide_eq_true (by
  intro z
  rcases z with z | z
  · exact absurd z (by decide)
  · have : (0 : Int32).toNatClampNeg = 0 := by decide
    omega)
section AXU
variable {p : Program} {l : Launch} {e : Env} {s s₁ : State} {m : MethodId} {below : List Frame} {meth : Method} {c : Code} {ws : List Cond}
variable {ad : List Nat} {D : va_G} {dA : FieldType → ClassId} {ro : Nat → Nat} {X : Nat × (Nat → Int32)} {M : ax_M} {d sz : Nat} {vs : List Value} {H H' : ax_H}
/-- a body that returns -/
theorem ax_bodyW {j : Nat} {v : Option Value} (IH : ax_Snd l d) (hj : ax_mt[j]? = some M) (hnw : ∀ i ∈ M.2.2.2.2, 4 ≤ i.2.2.2.1 → i.2.2.2.1 ≤ 6 → (∃ k, i.2.1 = .invokestatic k) → False) (he : ev (d + 1) j 0 (ax_arg 0 vs) [] H = some (H', some v)) (hwd : ax_wid vs ≤ M.2.2.1)
    (B : BodyLoose p l M.1 (headSpec ws (ax_rm (d + 1) (H'.2.1.1 - H.2.1.1) (H'.2.1.2 - H.2.1.2))) M.2.1 M.2.2.1 M.2.2.2.1 e s m ((vs.map (ax_cv ad ro)).toArray) below meth c s₁) (hml : c.maxLocals = M.2.2.1) (hts : ∀ w ∈ lw_g, w.before ((vs.map (ax_cv ad ro)).toArray) s = true) (hv : ax_PP D dA ro X H ad sz s) (had : ad.length = H.1.length) (hle : H.1.length ≤ 1000000) (hX : H.2.2 = X) :
    W p l e (headSpec ws (ax_rm (d + 1) (H'.2.1.1 - H.2.1.1) (H'.2.1.2 - H.2.1.2))).room s m ((vs.map (ax_cv ad ro)).toArray) below meth c s.heap [] 0 0 (MQ below (ax_QQ D dA ro X ad (va_A (ax_cw dA ad ro H.1) sz) H' v) ((vs.map (ax_cv ad ro)).toArray) s (H'.2.1.1 - H.2.1.1) (H'.2.1.2 - H.2.1.2) (va_A (ax_cw dA ad ro H.1) sz)) (entryFrame m ((vs.map (ax_cv ad ro)).toArray) M.2.2.1) := by
  obtain ⟨n, hn⟩ := ev_it he
  have hup : ax_le H H' := ev_le (d + 1) _ _ _ _ _ _ he
  have hup1 : H.2.1.1 ≤ H'.2.1.1 := hup.1
  have hup2 : H.2.1.2 ≤ H'.2.1.2 := hup.2
  obtain ⟨hsz, hP, hD0, hSt⟩ := hv
  have hx := B.exec
  have hb := B.bytes
  have hr := B.returns
  have hown : s.vm.findClass M.1.cls = some m.cls := findClass_of_methodNamed B.named
  have hlocks := B.notSynchronized
  have hin : M.1.name = "<init>" → meth.name = "<init>" := fun h => (name_of_methodNamed B.named B.method).1.trans h
  subst hsz
  have hD := hD0.self (sz := s.heap.size)
  generalize hAe : va_A (ax_cw dA ad ro H.1) s.heap.size = A at hD hSt ⊢
  have hA : ∀ q : Nat, s.heap.size ≤ q → A q := fun q h => by rw [← hAe]; exact Or.inr h
  have hl := lv_entry (vs.map (ax_cv ad ro)) (n := M.2.2.1) (by rw [ax_wid_sl]; have : ((vs.map (ax_cv ad ro)).map fun v => v.category) = vs.map (fun v => v.category) := by { rw [List.map_map]; exact List.map_congr_left fun v _ => ax_cv_cat ad ro v }; rw [this]; exact hwd)
  rw [lg_entry_eq]
  rw [← ax_arg_cl] at hl
  have C : ax_CT D dA ro X A p (headSpec ws (ax_rm (d + 1) (H'.2.1.1 - H.2.1.1) (H'.2.1.2 - H.2.1.2))).room s m ((vs.map (ax_cv ad ro)).toArray) meth c M (d + 1) := ⟨hx, hb, hml, hown, hts, hin, hA, hSt, Nat.le_refl _, Nat.le_refl _⟩
  refine ax_walk (c0 := H.2.1.1) (s0 := H.2.1.2) (ad0 := ad) (r := (H', some v)) IH hj (fun i hi h1 h2 h3 => (hnw i hi h1 h2 h3).elim) C (by show H'.2.1.1 ≤ H.2.1.1 + (H'.2.1.1 - H.2.1.1); omega) (by show H'.2.1.2 ≤ H.2.1.2 + (H'.2.1.2 - H.2.1.2); omega) ?_ n 0 (ax_arg 0 vs) [] H s.heap [] 0 0 _ ad ⟨hP, hD, va_S.rf, hl, had, hle, hX, rfl, rfl, [], (List.append_nil ad).symm⟩ hn
  intro pc L S H2 Hm locs cells slots ls ad2 V hend
  obtain ⟨vP, vD, vS, vl, vad, vle, vX, vcc, vss, ex, rfl⟩ := V
  unfold ax_end at hend
  split at hend
  · rename_i i hi
    obtain ⟨M2, hM2, hmem2, hpc⟩ := ax_at_inv hi
    have e1 : M2 = M := Option.some.inj (hM2.symm.trans hj)
    subst e1
    have hPE := ax_ok_all M2 (List.mem_of_getElem? hj) i hmem2
    obtain ⟨pc2, ins, len, r1, r2, r3⟩ := i
    have hpc : pc2 = pc := hpc
    subst hpc
    have hrt : ax_ret j = M2.2.2.2.1 := by unfold ax_ret; rw [hj]
    have hlocs : ∀ q ∈ locs, A q.base := vS.2.2
    have done : ∀ (v9 : Option Value), H' = H2 → v = v9 → H'.2.1.1 - H.2.1.1 = cells ∧ H'.2.1.2 - H.2.1.2 = slots ∧ ∀ t : State, t.heap = Hm → s.WarmedH t.vm → ax_QQ D dA ro X ad A H' v ((vs.map (ax_cv ad ro)).toArray) s (.returned (v9.map (ax_cv (ad ++ ex) ro))) t := by
      intro v9 hH hv9
      subst hH
      subst hv9
      refine ⟨by omega, by omega, fun t ht _ => ⟨ex, rfl, by rw [ht]; exact vP, vD, vad, vle, vX, vS.F ht⟩⟩
    unfold ax_fin at hend
    simp only at hend
    split at hend
    · have hln : len = 1 := ax_nm_len hPE.2.2 (fun _ _ _ _ h => by cases h) (fun _ _ h => by cases h)
      subst hln
      have hd := hPE.1
      split at hend
      · rename_i x hrx
        cases hend
        obtain ⟨z1, z2, z3⟩ := done (some (.int x)) rfl rfl
        rw [z1, z2]
        exact W.iret hx hb (hr.trans (hrt.symm.trans hrx)) z3 hlocs hd hlocks
      · rename_i x hrx
        split at hend
        · rename_i hx01
          cases hend
          obtain ⟨z1, z2, z3⟩ := done (some (.int x)) rfl rfl
          rw [z1, z2]
          exact W.zret (ty := .boolean) hx hb (hr.trans (hrt.symm.trans hrx)) (by rcases hx01 with rfl | rfl <;> rfl) z3 hlocs hd hlocks
        · cases hend
      · cases hend
    · have hln : len = 1 := ax_nm_len hPE.2.2 (fun _ _ _ _ h => by cases h) (fun _ _ h => by cases h)
      subst hln
      have hd := hPE.1
      split at hend
      · rename_i x hrx
        cases hend
        obtain ⟨z1, z2, z3⟩ := done (some (.long x)) rfl rfl
        rw [z1, z2]
        exact W.lret hx hb (hr.trans (hrt.symm.trans hrx)) z3 hlocs hd hlocks
      · cases hend
    · have hln : len = 1 := ax_nm_len hPE.2.2 (fun _ _ _ _ h => by cases h) (fun _ _ h => by cases h)
      subst hln
      have hd := hPE.1
      split at hend
      · rename_i x nm hrx
        cases hend
        obtain ⟨z1, z2, z3⟩ := done (some (.ref x)) rfl rfl
        rw [z1, z2]
        exact W.aret hx hb (hr.trans (hrt.symm.trans hrx)) (Or.inl ⟨_, rfl⟩) (Or.inr ⟨_, rfl⟩) z3 hlocs hd hlocks
      · cases hend
    · have hln : len = 1 := ax_nm_len hPE.2.2 (fun _ _ _ _ h => by cases h) (fun _ _ h => by cases h)
      subst hln
      have hd := hPE.1
      split at hend
      · rename_i hrx
        cases hend
        obtain ⟨z1, z2, z3⟩ := done none rfl rfl
        rw [z1, z2]
        exact W.vret hx hb (hr.trans (hrt.symm.trans hrx)) z3 hlocs hd hlocks
      · cases hend
    · obtain ⟨-, hend⟩ := ax_bif hend
      split at hend <;> cases hend
    · cases hend
  · cases hend
end AXU
theorem ax_wrev_barge {d a o n : Nat} {x y : Int32} {v : Int32} {f : Nat → Int64} {H H1 : ax_H} (hob : (ax_obj H a 8).isSome = true) (he : ev d 223 0 (ax_arg 0 [.ref a, .int x, .int y]) [] H = some (H1, some (some (.int v)))) (hlen : H1.1.length = H.1.length) (hrow : ax_rowL H1 o = some (n, f)) (hn : 0 < n) :
    ev (d + 1) 4 0 (ax_arg 0 [.ref a, .int x, .int y, .ref o]) [] H = some (ax_put H1 o (.inl (.long, n, .inr (.inl (vp_updL f 0 v.toInt64)))), some (some (.int 0))) := by
  refine ev_to (b := [(0, .aload_n 3, 1, 0, 0, 0), (1, .iconst 0, 1, 0, 0, 0), (2, .aload_n 0, 1, 0, 0, 0), (3, .iload_n 1, 1, 0, 0, 0), (4, .iload_n 2, 1, 0, 0, 0)]) (pc' := 5) (L0 := [(0, .ref a), (1, .int x), (2, .int y), (3, .ref o)]) (L' := [(0, .ref a), (1, .int x), (2, .int y), (3, .ref o)]) (S' := [.int y, .int x, .ref a, .int 0, .ref o]) (H' := H) (by decide +kernel) (by intro z; cases z) rfl (by decide +kernel : ax_msk 4 5 = none) rfl ?_
  rw [ev_cv (as := [.int x, .int y]) (a := a) (r := [.int 0, .ref o]) (v := some (.int v)) (len := 3) (i := 7) (r2 := 302) (r3 := 8) (by decide +kernel) rfl (by rw [hob]; rfl) (by unfold ax_kp; rw [hlen, Nat.beq_refl]; rfl) (by decide +kernel : ax_msk 4 8 = none) rfl he]
  refine ev_to (b := [(8, .i2l, 1, 0, 0, 0)]) (pc' := 9) (L0 := [(0, .ref a), (1, .int x), (2, .int y), (3, .ref o)]) (L' := [(0, .ref a), (1, .int x), (2, .int y), (3, .ref o)]) (S' := [.long v.toInt64, .int 0, .ref o]) (H' := H1) (by decide +kernel) (by intro z; cases z) rfl (by decide +kernel : ax_msk 4 9 = none) rfl ?_
  refine (ev_last (x := 0) (y := v.toInt64) (n := n) (f := f) (len := 1) (r1 := 0) (r2 := 0) (r3 := 0) (by decide +kernel) hrow rfl (by decide +kernel : ax_msk 4 10 = none) rfl rfl).trans ?_
  rw [ax_ix0 hn, cond_true]
  refine ev_to (b := [(10, .goto 7, 3, 17, 0, 0), (17, .iconst 0, 1, 0, 0, 0)]) (pc' := 18) (L0 := [(0, .ref a), (1, .int x), (2, .int y), (3, .ref o)]) (L' := [(0, .ref a), (1, .int x), (2, .int y), (3, .ref o)]) (S' := [.int 0]) (H' := _) (by decide +kernel) (by intro z; cases z) rfl (by decide +kernel : ax_msk 4 18 = none) rfl ?_
  exact ev_iret (len := 1) (r1 := 0) (r2 := 0) (r3 := 0) (by decide +kernel) (by decide +kernel)
abbrev ax_Mw_barge : ax_M := (⟨"BargesByBreathLaw", "barge", "(LBargesByBreath;II[J)I"⟩, method_3_code, 5, some .int, tb_4)
abbrev ax_Mm_barge : ax_M := (⟨"BargesByBreath", "barge", "(II)I"⟩, prog_1_method_9_code, 3, some .int, tb_223)
def ax_ws_barge : List Cond := .codeWith ax_Mw_barge.1 method_3_code 5 (some .int) [(0, 10, 13, 13)] :: lw_g
theorem ax_cw_barge : Cond.codeWith ax_Mw_barge.1 method_3_code 5 (some .int) [(0, 10, 13, 13)] ∈ lw_g := lw_g_of (List.mem_of_getElem? (i := 954) (by decide +kernel)) rfl
theorem ax_met_barge (l : Launch) (hst : l.stackTraces = false) (d : Nat) {a o : Nat} {x y : Int32} {H H' : ax_H} {k : Int32} (hob : (ax_obj H a 8).isSome = true) (he : ax_wrap (ev d 223 0 (ax_arg 0 [.ref a, .int x, .int y]) [] H) o = some (H', k)) (hlen : Nat.beq H'.1.length H.1.length = true)
    (D : va_G) (dA : FieldType → ClassId) (ro : Nat → Nat) (X : Nat × (Nat → Int32)) (ad : List Nat) (sz : Nat) (had : ad.length = H.1.length) (hle : H.1.length ≤ 1000000) (hX : H.2.2 = X) :
    Met l ax_Mw_barge.1 ax_ws_barge (ax_rm (d + 1) (H'.2.1.1 - H.2.1.1) (H'.2.1.2 - H.2.1.2)) (va_Pc (([.ref a, .int x, .int y, .ref o] : List Value).map (ax_cv ad ro)) (ax_PP D dA ro X H ad sz)) (ax_QQ D dA ro X ad (va_A (ax_cw dA ad ro H.1) sz) H' (some (.int k))) (H'.2.1.1 - H.2.1.1) (H'.2.1.2 - H.2.1.2) (va_A (ax_cw dA ad ro H.1) sz) := by
  have hj : ax_mt[4]? = some ax_Mw_barge := by rfl
  have hnw : ∀ i ∈ tb_4, 4 ≤ i.2.2.2.1 → i.2.2.2.1 ≤ 6 → (∃ k, i.2.1 = .invokestatic k) → False := by
    intro i hi _ _ h
    obtain ⟨k, hk⟩ := h
    have h : (tb_4.all fun i => match i.2.1 with | .invokestatic _ => false | _ => true) = true := by decide +kernel
    have h1 := List.all_eq_true.mp h i hi
    rw [hk] at h1
    cases h1
  rcases ax_wrap_inv he with ⟨H1, n, f, hrow, hn, rfl, hcase⟩ | ⟨hth, rfl⟩
  · have hev : ev (d + 1) 4 0 (ax_arg 0 [.ref a, .int x, .int y, .ref o]) [] H = some (H', some (some (.int 0))) := by
      rcases hcase with ⟨v, h1, rfl⟩ | ⟨v, h1, rfl⟩
      · exact ax_wrev_barge hob h1 (by have h2 := Nat.eq_of_beq_eq_true hlen; simpa [ax_put] using h2) hrow hn
      · obtain ⟨z, hz⟩ := (ev_ty h1).1 (by decide +kernel)
        cases hz
    refine va_MetW (cc := method_3_code) (maxL := 5) (ret := some .int) (hh := [(0, 10, 13, 13)]) (by decide +kernel) rfl ?_
    intro p e s m args below meth c s₁ B hml hv
    obtain ⟨rfl, hv⟩ := hv
    have hts0 := atoms_spec (ws := ax_ws_barge) B.pre
    exact ax_bodyW (j := 4) (M := ax_Mw_barge) (ax_snd l d) hj hnw hev (by show 4 ≤ 5; decide) B hml (fun w hw => hts0 w (List.mem_cons_of_mem _ hw)) hv had hle hX
  · cases d with
    | zero => cases hth
    | succ d =>
    refine va_MetW (cc := method_3_code) (maxL := 5) (ret := some .int) (hh := [(0, 10, 13, 13)]) (by decide +kernel) rfl ?_
    intro p e s m args below meth c s₁ B hml hv
    obtain ⟨rfl, hv⟩ := hv
    have hts0 := atoms_spec (ws := ax_ws_barge) B.pre
    have hts : ∀ w ∈ lw_g, w.before ((([.ref a, .int x, .int y, .ref o] : List Value).map (ax_cv ad ro)).toArray) s = true := fun w hw => hts0 w (List.mem_cons_of_mem _ hw)
    have htab : c.exceptionTable.toList = tableOf [(0, 10, 13, 13)] := vx_table (x := ax_Mw_barge.1) B (hts0 _ List.mem_cons_self)
    obtain ⟨hsz, hP, hD0, hSt⟩ := hv
    have hx := B.exec
    have hb := B.bytes
    have hr := B.returns
    have hown : s.vm.findClass "BargesByBreathLaw" = some m.cls := findClass_of_methodNamed B.named
    have hlocks := B.notSynchronized
    subst hsz
    have hD := hD0.self (sz := s.heap.size)
    generalize hAe : va_A (ax_cw dA ad ro H.1) s.heap.size = A at hD hSt ⊢
    have hA : ∀ q : Nat, s.heap.size ≤ q → A q := fun q h => by rw [← hAe]; exact Or.inr h
    have hl := lv_entry (([.ref a, .int x, .int y, .ref o] : List Value).map (ax_cv ad ro)) (n := 5) (by rw [ax_wid_sl]; show 4 ≤ 5; decide)
    rw [lg_entry_eq]
    rw [← ax_arg_cl] at hl
    have C : ax_CT D dA ro X A p (headSpec ax_ws_barge (ax_rm (d + 1 + 1) (H'.2.1.1 - H.2.1.1) (H'.2.1.2 - H.2.1.2))).room s m ((([.ref a, .int x, .int y, .ref o] : List Value).map (ax_cv ad ro)).toArray) meth c ax_Mw_barge (d + 1 + 1) := ⟨hx, hb, hml, hown, hts, fun h => absurd h (by show ¬ ("barge" = "<init>"); decide), hA, hSt, Nat.le_refl _, Nat.le_refl _⟩
    have V0 : ax_IV D dA ro X A s 5 H.2.1.1 H.2.1.2 ad [(0, .ref a), (1, .int x), (2, .int y), (3, .ref o)] H s.heap [] 0 0 _ ad := ⟨hP, hD, va_S.rf, hl, had, hle, hX, rfl, rfl, [], (List.append_nil ad).symm⟩
    have ok : ∀ e ∈ tb_4, ax_PE ax_Mw_barge e := ok_4
    refine ax_s1_W C (ok _ (List.mem_of_getElem? (i := 0) (by rfl : tb_4[0]? = some (0, .aload_n 3, 1, 0, 0, 0)))) V0 (q := (1, [(0, .ref a), (1, .int x), (2, .int y), (3, .ref o)], [.ref o], H)) rfl (Nat.le_add_right _ _) (Nat.le_add_right _ _) (fun Hm locs cells slots ls ad2 V => ?_)
    refine ax_s1_W C (ok _ (List.mem_of_getElem? (i := 1) (by rfl : tb_4[1]? = some (1, .iconst 0, 1, 0, 0, 0)))) V (q := (2, [(0, .ref a), (1, .int x), (2, .int y), (3, .ref o)], [.int 0, .ref o], H)) rfl (Nat.le_add_right _ _) (Nat.le_add_right _ _) (fun Hm locs cells slots ls ad2 V => ?_)
    refine ax_s1_W C (ok _ (List.mem_of_getElem? (i := 2) (by rfl : tb_4[2]? = some (2, .aload_n 0, 1, 0, 0, 0)))) V (q := (3, [(0, .ref a), (1, .int x), (2, .int y), (3, .ref o)], [.ref a, .int 0, .ref o], H)) rfl (Nat.le_add_right _ _) (Nat.le_add_right _ _) (fun Hm locs cells slots ls ad2 V => ?_)
    refine ax_s1_W C (ok _ (List.mem_of_getElem? (i := 3) (by rfl : tb_4[3]? = some (3, .iload_n 1, 1, 0, 0, 0)))) V (q := (4, [(0, .ref a), (1, .int x), (2, .int y), (3, .ref o)], [.int x, .ref a, .int 0, .ref o], H)) rfl (Nat.le_add_right _ _) (Nat.le_add_right _ _) (fun Hm locs cells slots ls ad2 V => ?_)
    refine ax_s1_W C (ok _ (List.mem_of_getElem? (i := 4) (by rfl : tb_4[4]? = some (4, .iload_n 2, 1, 0, 0, 0)))) V (q := (5, [(0, .ref a), (1, .int x), (2, .int y), (3, .ref o)], [.int y, .int x, .ref a, .int 0, .ref o], H)) rfl (Nat.le_add_right _ _) (Nat.le_add_right _ _) (fun Hm locs cells slots ls ad2 V => ?_)
    have V : ax_IV D dA ro X A s 5 H.2.1.1 H.2.1.2 ad [(0, .ref a), (1, .int x), (2, .int y), (3, .ref o)] H Hm locs cells slots ls ad2 := V
    obtain ⟨vP, vD, vS, vl, vad, vle, vX, vcc, vss, ex0, hex0⟩ := id V
    have e0 : ex0 = [] := by
      have h1 := congrArg List.length hex0
      rw [List.length_append] at h1
      exact List.eq_nil_of_length_eq_zero (by omega)
    rw [e0, List.append_nil] at hex0
    subst hex0
    have hc0 : cells = 0 := by omega
    have hs0 : slots = 0 := by omega
    subst hc0
    subst hs0
    have hM' : ax_mt[223]? = some ax_Mm_barge := by rfl
    have hmem : ax_Mm_barge ∈ ax_mt := List.mem_of_getElem? hM'
    have hPE := ok _ (List.mem_of_getElem? (i := 5) (by rfl : tb_4[5]? = some (5, .invokevirtual 7, 3, 223, 302, 8)))
    have hcd : Cond.code ax_Mm_barge.1 ax_Mm_barge.2.1 ax_Mm_barge.2.2.1 ax_Mm_barge.2.2.2.1 ∈ lw_g ∧ plainName ax_Mm_barge.1.cls = true ∧ ax_Mm_barge.2.2.1 ≤ 21 := ((ax_co_all _ hmem).resolve_left (by decide)).resolve_left (by decide)
    have h9 := hPE.2.2
    simp only [ax_nm, Bool.and_eq_true] at h9
    obtain ⟨M2, hM2, -, -, hdd, hr2, -⟩ := ax_cal_inv h9.2.1
    cases Option.some.inj (hM2.symm.trans hM')
    have hwds : ∀ w ∈ [Cond.methodLink "BargesByBreathLaw" 7 ax_Mm_barge.1, Cond.instanceMethod ax_Mm_barge.1, Cond.selects ax_Mm_barge.1.cls ax_Mm_barge.1 ax_Mm_barge.1, Cond.initialized ax_Mm_barge.1.cls], w.before ((([.ref a, .int x, .int y, .ref o] : List Value).map (ax_cv ad2 ro)).toArray) s = true := fun w hw9 => hts _ (hPE.2.1 _ (by
      show w ∈ (match ax_mt[223]? with
        | some M => [Cond.methodLink _ 7 M.1, Cond.instanceMethod M.1, Cond.selects M.1.cls M.1 M.1, Cond.initialized M.1.cls]
        | none => [])
      rw [hM']; exact hw9))
    have hlk := hwds _ List.mem_cons_self
    have hins := hwds _ (List.mem_cons_of_mem _ List.mem_cons_self)
    have hsel := hwds _ (List.mem_cons_of_mem _ (List.mem_cons_of_mem _ List.mem_cons_self))
    have hini := hwds _ (List.mem_cons_of_mem _ (List.mem_cons_of_mem _ (List.mem_cons_of_mem _ List.mem_cons_self)))
    have hMet := ax_sndx l hst d hM' (by decide) (by decide) hth (by show 3 ≤ ax_Mm_barge.2.2.1; decide) D dA ro X ad2 Hm.size had hle hX
    obtain ⟨fs, hfs⟩ := Option.isSome_iff_exists.mp hob
    obtain ⟨ha9, he9⟩ := ax_obj_inv hfs
    have hrecv := va_recv hSt.1 vP (by rfl : vwCl[8]? = some (RX9, TX9, 9)) (ax_cw_at (dA := dA) (ro := ro) had hle he9)
    have hp : PreV s Hm "BargesByBreath" (ax_ca ad2 ro a) (va_Pc (([.ref a, .int x, .int y] : List Value).map (ax_cv ad2 ro)) (ax_PP D dA ro X H ad2 Hm.size)) (([.int x, .int y] : List Value).map (ax_cv ad2 ro)) := ⟨ax_blind, hrecv, ax_pre hA hSt V [.ref a, .int x, .int y]⟩
    have hrun := vx_runV (rest := [.int 0, .ref (ax_ca ad2 ro o)]) ⟨hx, hb, hml, hown, hts⟩ hMet ⟨ax_callB (R := (headSpec ax_ws_barge (ax_rm (d + 1 + 1) (H'.2.1.1 - H.2.1.1) (H'.2.1.2 - H.2.1.2))).room) (d := d + 1) (mc := H'.2.1.1 - H.2.1.1) (ms := H'.2.1.2 - H.2.1.2) hts hcd.1 hcd.2.2 hini hlk hdd (Nat.le_refl _) (Nat.le_refl _), hins, hsel⟩ hp (g := F0 m 5 ls (([.int y, .int x, .ref a, .int 0, .ref o] : List Value).map (ax_cv ad2 ro))) rfl rfl vl.1 rfl (lv_room (by show 2 ≤ 8; decide)) hPE.1 ⟨by show 0 + _ ≤ _; rw [Nat.zero_add]; exact Nat.le_refl _, by show 0 + _ ≤ _; rw [Nat.zero_add]; exact Nat.le_refl _⟩ (p := p) (e := e) (below := below) (meth := meth) (locs := locs) (cells := 0) (slots := 0)
    intro T hT X9
    rcases hrun T hT X9 with ⟨_, _, _, _, _, _, _, _, _, _, hF, _⟩ | ⟨q, st₀, t, T', L9, E, ce, h0, X', hL9, e1, e2, hxc, hce, hcv, hcl, st⟩
    · exact hF.elim
    obtain ⟨rfl, ex, p1, d1, l1, l2, x1, hz, hk⟩ := hxc
    rw [h0] at hz hk
    have hsub : ∀ q, va_A (ax_cw dA ad2 ro H.1) Hm.size q → A q := fun q h => by
      rcases h with ⟨k, e9, h⟩ | h
      · exact vD.2 k (q, e9) h
      · exact hA q (Nat.le_trans vS.1 h)
    have hlocs : ∀ q ∈ locs ++ L9, A q.base := fun q hq => by
      rcases List.mem_append.mp hq with h | h
      · exact vS.2.2 q h
      · exact hsub _ (hL9 q h)
    have hF : ∀ t9 : State, t9.heap = T'.heap → va_F A s t9 := fun t9 ht9 => ⟨by rw [ht9, e1]; exact Nat.le_trans vS.1 hz, fun q h1 h2 => by rw [ht9, e1, hk q (Nat.lt_of_lt_of_le h1 vS.1) (fun z => h2 (hsub q z))]; exact vS.2.1 q h1 h2⟩
    have kW : W p l e (headSpec ax_ws_barge (ax_rm (d + 1 + 1) (H'.2.1.1 - H.2.1.1) (H'.2.1.2 - H.2.1.2))).room s m ((([.ref a, .int x, .int y, .ref o] : List Value).map (ax_cv ad2 ro)).toArray) below meth c T'.heap (locs ++ L9) (0 + (H'.2.1.1 - H.2.1.1)) (0 + (H'.2.1.2 - H.2.1.2)) (MQ below (ax_QQ D dA ro X ad2 A H' (some (.int 1))) ((([.ref a, .int x, .int y, .ref o] : List Value).map (ax_cv ad2 ro)).toArray) s (H'.2.1.1 - H.2.1.1) (H'.2.1.2 - H.2.1.2) A) (F0 m 13 ls [.ref q]) := by
      rw [Nat.zero_add, Nat.zero_add]
      refine lv_astore hx hb (ok _ (List.mem_of_getElem? (i := 9) (by rfl : tb_4[9]? = some (13, .astore 4, 2, 0, 0, 0)))).1  vl (by decide) rfl (fun ls2 h2 => lv_iconst hx hb (ok _ (List.mem_of_getElem? (i := 10) (by rfl : tb_4[10]? = some (15, .iconst 1, 1, 0, 0, 0)))).1 rfl ?_)
      exact W.iret hx hb hr (fun t9 ht9 _ => ⟨ex, rfl, by rw [ht9, e1]; exact p1, d1.weaken (fun k q _ h => hsub q.1 h), l1, l2, x1, hF t9 ht9⟩) hlocs (ok _ (List.mem_of_getElem? (i := 11) (by rfl : tb_4[11]? = some (16, .ireturn, 1, 0, 0, 0)))).1 hlocks
    obtain ⟨t2, a1, b1⟩ := ax_catch (own := "BargesByBreathLaw") (name := ax_NSE) (E := ax_NSE) (pc := 5) (rest := [.int 0, .ref (ax_ca ad2 ro o)]) hown ⟨0, 10, 13, 13⟩ htab (by decide) (by decide) (hts _ (lw_g_of (List.mem_of_getElem? (i := 955) (by decide +kernel)) rfl)) (va_Nw.use rfl (hSt.2.2.2.2.2.1 _ List.mem_cons_self)) (by rw [e1]; exact hce) hcv hcl kW T' rfl X'
    exact ⟨t2, st.trans a1, b1⟩
theorem ax_wrev_passenger {d a o n : Nat} {x y : Int32} {v : Int32} {f : Nat → Int64} {H H1 : ax_H} (hob : (ax_obj H a 8).isSome = true) (he : ev d 224 0 (ax_arg 0 [.ref a, .int x, .int y]) [] H = some (H1, some (some (.int v)))) (hlen : H1.1.length = H.1.length) (hrow : ax_rowL H1 o = some (n, f)) (hn : 0 < n) :
    ev (d + 1) 5 0 (ax_arg 0 [.ref a, .int x, .int y, .ref o]) [] H = some (ax_put H1 o (.inl (.long, n, .inr (.inl (vp_updL f 0 v.toInt64)))), some (some (.int 0))) := by
  refine ev_to (b := [(0, .aload_n 3, 1, 0, 0, 0), (1, .iconst 0, 1, 0, 0, 0), (2, .aload_n 0, 1, 0, 0, 0), (3, .iload_n 1, 1, 0, 0, 0), (4, .iload_n 2, 1, 0, 0, 0)]) (pc' := 5) (L0 := [(0, .ref a), (1, .int x), (2, .int y), (3, .ref o)]) (L' := [(0, .ref a), (1, .int x), (2, .int y), (3, .ref o)]) (S' := [.int y, .int x, .ref a, .int 0, .ref o]) (H' := H) (by decide +kernel) (by intro z; cases z) rfl (by decide +kernel : ax_msk 5 5 = none) rfl ?_
  rw [ev_cv (as := [.int x, .int y]) (a := a) (r := [.int 0, .ref o]) (v := some (.int v)) (len := 3) (i := 15) (r2 := 302) (r3 := 8) (by decide +kernel) rfl (by rw [hob]; rfl) (by unfold ax_kp; rw [hlen, Nat.beq_refl]; rfl) (by decide +kernel : ax_msk 5 8 = none) rfl he]
  refine ev_to (b := [(8, .i2l, 1, 0, 0, 0)]) (pc' := 9) (L0 := [(0, .ref a), (1, .int x), (2, .int y), (3, .ref o)]) (L' := [(0, .ref a), (1, .int x), (2, .int y), (3, .ref o)]) (S' := [.long v.toInt64, .int 0, .ref o]) (H' := H1) (by decide +kernel) (by intro z; cases z) rfl (by decide +kernel : ax_msk 5 9 = none) rfl ?_
  refine (ev_last (x := 0) (y := v.toInt64) (n := n) (f := f) (len := 1) (r1 := 0) (r2 := 0) (r3 := 0) (by decide +kernel) hrow rfl (by decide +kernel : ax_msk 5 10 = none) rfl rfl).trans ?_
  rw [ax_ix0 hn, cond_true]
  refine ev_to (b := [(10, .goto 7, 3, 17, 0, 0), (17, .iconst 0, 1, 0, 0, 0)]) (pc' := 18) (L0 := [(0, .ref a), (1, .int x), (2, .int y), (3, .ref o)]) (L' := [(0, .ref a), (1, .int x), (2, .int y), (3, .ref o)]) (S' := [.int 0]) (H' := _) (by decide +kernel) (by intro z; cases z) rfl (by decide +kernel : ax_msk 5 18 = none) rfl ?_
  exact ev_iret (len := 1) (r1 := 0) (r2 := 0) (r3 := 0) (by decide +kernel) (by decide +kernel)
abbrev ax_Mw_passenger : ax_M := (⟨"BargesByBreathLaw", "passenger", "(LBargesByBreath;II[J)I"⟩, method_4_code, 5, some .int, tb_5)
abbrev ax_Mm_passenger : ax_M := (⟨"BargesByBreath", "passenger", "(II)I"⟩, prog_1_method_10_code, 3, some .int, tb_224)
def ax_ws_passenger : List Cond := .codeWith ax_Mw_passenger.1 method_4_code 5 (some .int) [(0, 10, 13, 13)] :: lw_g
theorem ax_cw_passenger : Cond.codeWith ax_Mw_passenger.1 method_4_code 5 (some .int) [(0, 10, 13, 13)] ∈ lw_g := lw_g_of (List.mem_of_getElem? (i := 1029) (by decide +kernel)) rfl
theorem ax_met_passenger (l : Launch) (hst : l.stackTraces = false) (d : Nat) {a o : Nat} {x y : Int32} {H H' : ax_H} {k : Int32} (hob : (ax_obj H a 8).isSome = true) (he : ax_wrap (ev d 224 0 (ax_arg 0 [.ref a, .int x, .int y]) [] H) o = some (H', k)) (hlen : Nat.beq H'.1.length H.1.length = true)
    (D : va_G) (dA : FieldType → ClassId) (ro : Nat → Nat) (X : Nat × (Nat → Int32)) (ad : List Nat) (sz : Nat) (had : ad.length = H.1.length) (hle : H.1.length ≤ 1000000) (hX : H.2.2 = X) :
    Met l ax_Mw_passenger.1 ax_ws_passenger (ax_rm (d + 1) (H'.2.1.1 - H.2.1.1) (H'.2.1.2 - H.2.1.2)) (va_Pc (([.ref a, .int x, .int y, .ref o] : List Value).map (ax_cv ad ro)) (ax_PP D dA ro X H ad sz)) (ax_QQ D dA ro X ad (va_A (ax_cw dA ad ro H.1) sz) H' (some (.int k))) (H'.2.1.1 - H.2.1.1) (H'.2.1.2 - H.2.1.2) (va_A (ax_cw dA ad ro H.1) sz) := by
  have hj : ax_mt[5]? = some ax_Mw_passenger := by rfl
  have hnw : ∀ i ∈ tb_5, 4 ≤ i.2.2.2.1 → i.2.2.2.1 ≤ 6 → (∃ k, i.2.1 = .invokestatic k) → False := by
    intro i hi _ _ h
    obtain ⟨k, hk⟩ := h
    have h : (tb_5.all fun i => match i.2.1 with | .invokestatic _ => false | _ => true) = true := by decide +kernel
    have h1 := List.all_eq_true.mp h i hi
    rw [hk] at h1
    cases h1
  rcases ax_wrap_inv he with ⟨H1, n, f, hrow, hn, rfl, hcase⟩ | ⟨hth, rfl⟩
  · have hev : ev (d + 1) 5 0 (ax_arg 0 [.ref a, .int x, .int y, .ref o]) [] H = some (H', some (some (.int 0))) := by
      rcases hcase with ⟨v, h1, rfl⟩ | ⟨v, h1, rfl⟩
      · exact ax_wrev_passenger hob h1 (by have h2 := Nat.eq_of_beq_eq_true hlen; simpa [ax_put] using h2) hrow hn
      · obtain ⟨z, hz⟩ := (ev_ty h1).1 (by decide +kernel)
        cases hz
    refine va_MetW (cc := method_4_code) (maxL := 5) (ret := some .int) (hh := [(0, 10, 13, 13)]) (by decide +kernel) rfl ?_
    intro p e s m args below meth c s₁ B hml hv
    obtain ⟨rfl, hv⟩ := hv
    have hts0 := atoms_spec (ws := ax_ws_passenger) B.pre
    exact ax_bodyW (j := 5) (M := ax_Mw_passenger) (ax_snd l d) hj hnw hev (by show 4 ≤ 5; decide) B hml (fun w hw => hts0 w (List.mem_cons_of_mem _ hw)) hv had hle hX
  · cases d with
    | zero => cases hth
    | succ d =>
    refine va_MetW (cc := method_4_code) (maxL := 5) (ret := some .int) (hh := [(0, 10, 13, 13)]) (by decide +kernel) rfl ?_
    intro p e s m args below meth c s₁ B hml hv
    obtain ⟨rfl, hv⟩ := hv
    have hts0 := atoms_spec (ws := ax_ws_passenger) B.pre
    have hts : ∀ w ∈ lw_g, w.before ((([.ref a, .int x, .int y, .ref o] : List Value).map (ax_cv ad ro)).toArray) s = true := fun w hw => hts0 w (List.mem_cons_of_mem _ hw)
    have htab : c.exceptionTable.toList = tableOf [(0, 10, 13, 13)] := vx_table (x := ax_Mw_passenger.1) B (hts0 _ List.mem_cons_self)
    obtain ⟨hsz, hP, hD0, hSt⟩ := hv
    have hx := B.exec
    have hb := B.bytes
    have hr := B.returns
    have hown : s.vm.findClass "BargesByBreathLaw" = some m.cls := findClass_of_methodNamed B.named
    have hlocks := B.notSynchronized
    subst hsz
    have hD := hD0.self (sz := s.heap.size)
    generalize hAe : va_A (ax_cw dA ad ro H.1) s.heap.size = A at hD hSt ⊢
    have hA : ∀ q : Nat, s.heap.size ≤ q → A q := fun q h => by rw [← hAe]; exact Or.inr h
    have hl := lv_entry (([.ref a, .int x, .int y, .ref o] : List Value).map (ax_cv ad ro)) (n := 5) (by rw [ax_wid_sl]; show 4 ≤ 5; decide)
    rw [lg_entry_eq]
    rw [← ax_arg_cl] at hl
    have C : ax_CT D dA ro X A p (headSpec ax_ws_passenger (ax_rm (d + 1 + 1) (H'.2.1.1 - H.2.1.1) (H'.2.1.2 - H.2.1.2))).room s m ((([.ref a, .int x, .int y, .ref o] : List Value).map (ax_cv ad ro)).toArray) meth c ax_Mw_passenger (d + 1 + 1) := ⟨hx, hb, hml, hown, hts, fun h => absurd h (by show ¬ ("passenger" = "<init>"); decide), hA, hSt, Nat.le_refl _, Nat.le_refl _⟩
    have V0 : ax_IV D dA ro X A s 5 H.2.1.1 H.2.1.2 ad [(0, .ref a), (1, .int x), (2, .int y), (3, .ref o)] H s.heap [] 0 0 _ ad := ⟨hP, hD, va_S.rf, hl, had, hle, hX, rfl, rfl, [], (List.append_nil ad).symm⟩
    have ok : ∀ e ∈ tb_5, ax_PE ax_Mw_passenger e := ok_5
    refine ax_s1_W C (ok _ (List.mem_of_getElem? (i := 0) (by rfl : tb_5[0]? = some (0, .aload_n 3, 1, 0, 0, 0)))) V0 (q := (1, [(0, .ref a), (1, .int x), (2, .int y), (3, .ref o)], [.ref o], H)) rfl (Nat.le_add_right _ _) (Nat.le_add_right _ _) (fun Hm locs cells slots ls ad2 V => ?_)
    refine ax_s1_W C (ok _ (List.mem_of_getElem? (i := 1) (by rfl : tb_5[1]? = some (1, .iconst 0, 1, 0, 0, 0)))) V (q := (2, [(0, .ref a), (1, .int x), (2, .int y), (3, .ref o)], [.int 0, .ref o], H)) rfl (Nat.le_add_right _ _) (Nat.le_add_right _ _) (fun Hm locs cells slots ls ad2 V => ?_)
    refine ax_s1_W C (ok _ (List.mem_of_getElem? (i := 2) (by rfl : tb_5[2]? = some (2, .aload_n 0, 1, 0, 0, 0)))) V (q := (3, [(0, .ref a), (1, .int x), (2, .int y), (3, .ref o)], [.ref a, .int 0, .ref o], H)) rfl (Nat.le_add_right _ _) (Nat.le_add_right _ _) (fun Hm locs cells slots ls ad2 V => ?_)
    refine ax_s1_W C (ok _ (List.mem_of_getElem? (i := 3) (by rfl : tb_5[3]? = some (3, .iload_n 1, 1, 0, 0, 0)))) V (q := (4, [(0, .ref a), (1, .int x), (2, .int y), (3, .ref o)], [.int x, .ref a, .int 0, .ref o], H)) rfl (Nat.le_add_right _ _) (Nat.le_add_right _ _) (fun Hm locs cells slots ls ad2 V => ?_)
    refine ax_s1_W C (ok _ (List.mem_of_getElem? (i := 4) (by rfl : tb_5[4]? = some (4, .iload_n 2, 1, 0, 0, 0)))) V (q := (5, [(0, .ref a), (1, .int x), (2, .int y), (3, .ref o)], [.int y, .int x, .ref a, .int 0, .ref o], H)) rfl (Nat.le_add_right _ _) (Nat.le_add_right _ _) (fun Hm locs cells slots ls ad2 V => ?_)
    have V : ax_IV D dA ro X A s 5 H.2.1.1 H.2.1.2 ad [(0, .ref a), (1, .int x), (2, .int y), (3, .ref o)] H Hm locs cells slots ls ad2 := V
    obtain ⟨vP, vD, vS, vl, vad, vle, vX, vcc, vss, ex0, hex0⟩ := id V
    have e0 : ex0 = [] := by
      have h1 := congrArg List.length hex0
      rw [List.length_append] at h1
      exact List.eq_nil_of_length_eq_zero (by omega)
    rw [e0, List.append_nil] at hex0
    subst hex0
    have hc0 : cells = 0 := by omega
    have hs0 : slots = 0 := by omega
    subst hc0
    subst hs0
    have hM' : ax_mt[224]? = some ax_Mm_passenger := by rfl
    have hmem : ax_Mm_passenger ∈ ax_mt := List.mem_of_getElem? hM'
    have hPE := ok _ (List.mem_of_getElem? (i := 5) (by rfl : tb_5[5]? = some (5, .invokevirtual 15, 3, 224, 302, 8)))
    have hcd : Cond.code ax_Mm_passenger.1 ax_Mm_passenger.2.1 ax_Mm_passenger.2.2.1 ax_Mm_passenger.2.2.2.1 ∈ lw_g ∧ plainName ax_Mm_passenger.1.cls = true ∧ ax_Mm_passenger.2.2.1 ≤ 21 := ((ax_co_all _ hmem).resolve_left (by decide)).resolve_left (by decide)
    have h9 := hPE.2.2
    simp only [ax_nm, Bool.and_eq_true] at h9
    obtain ⟨M2, hM2, -, -, hdd, hr2, -⟩ := ax_cal_inv h9.2.1
    cases Option.some.inj (hM2.symm.trans hM')
    have hwds : ∀ w ∈ [Cond.methodLink "BargesByBreathLaw" 15 ax_Mm_passenger.1, Cond.instanceMethod ax_Mm_passenger.1, Cond.selects ax_Mm_passenger.1.cls ax_Mm_passenger.1 ax_Mm_passenger.1, Cond.initialized ax_Mm_passenger.1.cls], w.before ((([.ref a, .int x, .int y, .ref o] : List Value).map (ax_cv ad2 ro)).toArray) s = true := fun w hw9 => hts _ (hPE.2.1 _ (by
      show w ∈ (match ax_mt[224]? with
        | some M => [Cond.methodLink _ 15 M.1, Cond.instanceMethod M.1, Cond.selects M.1.cls M.1 M.1, Cond.initialized M.1.cls]
        | none => [])
      rw [hM']; exact hw9))
    have hlk := hwds _ List.mem_cons_self
    have hins := hwds _ (List.mem_cons_of_mem _ List.mem_cons_self)
    have hsel := hwds _ (List.mem_cons_of_mem _ (List.mem_cons_of_mem _ List.mem_cons_self))
    have hini := hwds _ (List.mem_cons_of_mem _ (List.mem_cons_of_mem _ (List.mem_cons_of_mem _ List.mem_cons_self)))
    have hMet := ax_sndx l hst d hM' (by decide) (by decide) hth (by show 3 ≤ ax_Mm_passenger.2.2.1; decide) D dA ro X ad2 Hm.size had hle hX
    obtain ⟨fs, hfs⟩ := Option.isSome_iff_exists.mp hob
    obtain ⟨ha9, he9⟩ := ax_obj_inv hfs
    have hrecv := va_recv hSt.1 vP (by rfl : vwCl[8]? = some (RX9, TX9, 9)) (ax_cw_at (dA := dA) (ro := ro) had hle he9)
    have hp : PreV s Hm "BargesByBreath" (ax_ca ad2 ro a) (va_Pc (([.ref a, .int x, .int y] : List Value).map (ax_cv ad2 ro)) (ax_PP D dA ro X H ad2 Hm.size)) (([.int x, .int y] : List Value).map (ax_cv ad2 ro)) := ⟨ax_blind, hrecv, ax_pre hA hSt V [.ref a, .int x, .int y]⟩
    have hrun := vx_runV (rest := [.int 0, .ref (ax_ca ad2 ro o)]) ⟨hx, hb, hml, hown, hts⟩ hMet ⟨ax_callB (R := (headSpec ax_ws_passenger (ax_rm (d + 1 + 1) (H'.2.1.1 - H.2.1.1) (H'.2.1.2 - H.2.1.2))).room) (d := d + 1) (mc := H'.2.1.1 - H.2.1.1) (ms := H'.2.1.2 - H.2.1.2) hts hcd.1 hcd.2.2 hini hlk hdd (Nat.le_refl _) (Nat.le_refl _), hins, hsel⟩ hp (g := F0 m 5 ls (([.int y, .int x, .ref a, .int 0, .ref o] : List Value).map (ax_cv ad2 ro))) rfl rfl vl.1 rfl (lv_room (by show 2 ≤ 8; decide)) hPE.1 ⟨by show 0 + _ ≤ _; rw [Nat.zero_add]; exact Nat.le_refl _, by show 0 + _ ≤ _; rw [Nat.zero_add]; exact Nat.le_refl _⟩ (p := p) (e := e) (below := below) (meth := meth) (locs := locs) (cells := 0) (slots := 0)
    intro T hT X9
    rcases hrun T hT X9 with ⟨_, _, _, _, _, _, _, _, _, _, hF, _⟩ | ⟨q, st₀, t, T', L9, E, ce, h0, X', hL9, e1, e2, hxc, hce, hcv, hcl, st⟩
    · exact hF.elim
    obtain ⟨rfl, ex, p1, d1, l1, l2, x1, hz, hk⟩ := hxc
    rw [h0] at hz hk
    have hsub : ∀ q, va_A (ax_cw dA ad2 ro H.1) Hm.size q → A q := fun q h => by
      rcases h with ⟨k, e9, h⟩ | h
      · exact vD.2 k (q, e9) h
      · exact hA q (Nat.le_trans vS.1 h)
    have hlocs : ∀ q ∈ locs ++ L9, A q.base := fun q hq => by
      rcases List.mem_append.mp hq with h | h
      · exact vS.2.2 q h
      · exact hsub _ (hL9 q h)
    have hF : ∀ t9 : State, t9.heap = T'.heap → va_F A s t9 := fun t9 ht9 => ⟨by rw [ht9, e1]; exact Nat.le_trans vS.1 hz, fun q h1 h2 => by rw [ht9, e1, hk q (Nat.lt_of_lt_of_le h1 vS.1) (fun z => h2 (hsub q z))]; exact vS.2.1 q h1 h2⟩
    have kW : W p l e (headSpec ax_ws_passenger (ax_rm (d + 1 + 1) (H'.2.1.1 - H.2.1.1) (H'.2.1.2 - H.2.1.2))).room s m ((([.ref a, .int x, .int y, .ref o] : List Value).map (ax_cv ad2 ro)).toArray) below meth c T'.heap (locs ++ L9) (0 + (H'.2.1.1 - H.2.1.1)) (0 + (H'.2.1.2 - H.2.1.2)) (MQ below (ax_QQ D dA ro X ad2 A H' (some (.int 1))) ((([.ref a, .int x, .int y, .ref o] : List Value).map (ax_cv ad2 ro)).toArray) s (H'.2.1.1 - H.2.1.1) (H'.2.1.2 - H.2.1.2) A) (F0 m 13 ls [.ref q]) := by
      rw [Nat.zero_add, Nat.zero_add]
      refine lv_astore hx hb (ok _ (List.mem_of_getElem? (i := 9) (by rfl : tb_5[9]? = some (13, .astore 4, 2, 0, 0, 0)))).1  vl (by decide) rfl (fun ls2 h2 => lv_iconst hx hb (ok _ (List.mem_of_getElem? (i := 10) (by rfl : tb_5[10]? = some (15, .iconst 1, 1, 0, 0, 0)))).1 rfl ?_)
      exact W.iret hx hb hr (fun t9 ht9 _ => ⟨ex, rfl, by rw [ht9, e1]; exact p1, d1.weaken (fun k q _ h => hsub q.1 h), l1, l2, x1, hF t9 ht9⟩) hlocs (ok _ (List.mem_of_getElem? (i := 11) (by rfl : tb_5[11]? = some (16, .ireturn, 1, 0, 0, 0)))).1 hlocks
    obtain ⟨t2, a1, b1⟩ := ax_catch (own := "BargesByBreathLaw") (name := ax_NSE) (E := ax_NSE) (pc := 5) (rest := [.int 0, .ref (ax_ca ad2 ro o)]) hown ⟨0, 10, 13, 13⟩ htab (by decide) (by decide) (hts _ (lw_g_of (List.mem_of_getElem? (i := 955) (by decide +kernel)) rfl)) (va_Nw.use rfl (hSt.2.2.2.2.2.1 _ List.mem_cons_self)) (by rw [e1]; exact hce) hcv hcl kW T' rfl X'
    exact ⟨t2, st.trans a1, b1⟩
theorem ax_wrev_row {d a o n : Nat} {x : Int32} {v : Int64} {f : Nat → Int64} {H H1 : ax_H} (hob : (ax_obj H a 8).isSome = true) (he : ev d 271 0 (ax_arg 0 [.ref a, .int x]) [] H = some (H1, some (some (.long v)))) (hlen : H1.1.length = H.1.length) (hrow : ax_rowL H1 o = some (n, f)) (hn : 0 < n) :
    ev (d + 1) 6 0 (ax_arg 0 [.ref a, .int x, .ref o]) [] H = some (ax_put H1 o (.inl (.long, n, .inr (.inl (vp_updL f 0 v)))), some (some (.int 0))) := by
  refine ev_to (b := [(0, .aload_n 2, 1, 0, 0, 0), (1, .iconst 0, 1, 0, 0, 0), (2, .aload_n 0, 1, 0, 0, 0), (3, .iload_n 1, 1, 0, 0, 0)]) (pc' := 4) (L0 := [(0, .ref a), (1, .int x), (2, .ref o)]) (L' := [(0, .ref a), (1, .int x), (2, .ref o)]) (S' := [.int x, .ref a, .int 0, .ref o]) (H' := H) (by decide +kernel) (by intro z; cases z) rfl (by decide +kernel : ax_msk 6 4 = none) rfl ?_
  rw [ev_cv (as := [.int x]) (a := a) (r := [.int 0, .ref o]) (v := some (.long v)) (len := 3) (i := 18) (r2 := 201) (r3 := 8) (by decide +kernel) rfl (by rw [hob]; rfl) (by unfold ax_kp; rw [hlen, Nat.beq_refl]; rfl) (by decide +kernel : ax_msk 6 7 = none) rfl he]
  refine (ev_last (x := 0) (y := v) (n := n) (f := f) (len := 1) (r1 := 0) (r2 := 0) (r3 := 0) (by decide +kernel) hrow rfl (by decide +kernel : ax_msk 6 8 = none) rfl rfl).trans ?_
  rw [ax_ix0 hn, cond_true]
  refine ev_to (b := [(8, .goto 6, 3, 14, 0, 0), (14, .iconst 0, 1, 0, 0, 0)]) (pc' := 15) (L0 := [(0, .ref a), (1, .int x), (2, .ref o)]) (L' := [(0, .ref a), (1, .int x), (2, .ref o)]) (S' := [.int 0]) (H' := _) (by decide +kernel) (by intro z; cases z) rfl (by decide +kernel : ax_msk 6 15 = none) rfl ?_
  exact ev_iret (len := 1) (r1 := 0) (r2 := 0) (r3 := 0) (by decide +kernel) (by decide +kernel)
abbrev ax_Mw_row : ax_M := (⟨"BargesByBreathLaw", "row", "(LBargesByBreath;I[J)I"⟩, method_5_code, 4, some .int, tb_6)
abbrev ax_Mm_row : ax_M := (⟨"BargesByBreath", "row", "(I)J"⟩, prog_1_method_57_code, 2, some .long, tb_271)
def ax_ws_row : List Cond := .codeWith ax_Mw_row.1 method_5_code 4 (some .int) [(0, 8, 11, 13)] :: lw_g
theorem ax_cw_row : Cond.codeWith ax_Mw_row.1 method_5_code 4 (some .int) [(0, 8, 11, 13)] ∈ lw_g := lw_g_of (List.mem_of_getElem? (i := 1038) (by decide +kernel)) rfl
theorem ax_met_row (l : Launch) (hst : l.stackTraces = false) (d : Nat) {a o : Nat} {x : Int32} {H H' : ax_H} {k : Int32} (hob : (ax_obj H a 8).isSome = true) (he : ax_wrap (ev d 271 0 (ax_arg 0 [.ref a, .int x]) [] H) o = some (H', k)) (hlen : Nat.beq H'.1.length H.1.length = true)
    (D : va_G) (dA : FieldType → ClassId) (ro : Nat → Nat) (X : Nat × (Nat → Int32)) (ad : List Nat) (sz : Nat) (had : ad.length = H.1.length) (hle : H.1.length ≤ 1000000) (hX : H.2.2 = X) :
    Met l ax_Mw_row.1 ax_ws_row (ax_rm (d + 1) (H'.2.1.1 - H.2.1.1) (H'.2.1.2 - H.2.1.2)) (va_Pc (([.ref a, .int x, .ref o] : List Value).map (ax_cv ad ro)) (ax_PP D dA ro X H ad sz)) (ax_QQ D dA ro X ad (va_A (ax_cw dA ad ro H.1) sz) H' (some (.int k))) (H'.2.1.1 - H.2.1.1) (H'.2.1.2 - H.2.1.2) (va_A (ax_cw dA ad ro H.1) sz) := by
  have hj : ax_mt[6]? = some ax_Mw_row := by rfl
  have hnw : ∀ i ∈ tb_6, 4 ≤ i.2.2.2.1 → i.2.2.2.1 ≤ 6 → (∃ k, i.2.1 = .invokestatic k) → False := by
    intro i hi _ _ h
    obtain ⟨k, hk⟩ := h
    have h : (tb_6.all fun i => match i.2.1 with | .invokestatic _ => false | _ => true) = true := by decide +kernel
    have h1 := List.all_eq_true.mp h i hi
    rw [hk] at h1
    cases h1
  rcases ax_wrap_inv he with ⟨H1, n, f, hrow, hn, rfl, hcase⟩ | ⟨hth, rfl⟩
  · have hev : ev (d + 1) 6 0 (ax_arg 0 [.ref a, .int x, .ref o]) [] H = some (H', some (some (.int 0))) := by
      rcases hcase with ⟨v, h1, rfl⟩ | ⟨v, h1, rfl⟩
      · obtain ⟨z, hz⟩ := (ev_ty h1).2 (by decide +kernel)
        cases hz
      · exact ax_wrev_row hob h1 (by have h2 := Nat.eq_of_beq_eq_true hlen; simpa [ax_put] using h2) hrow hn
    refine va_MetW (cc := method_5_code) (maxL := 4) (ret := some .int) (hh := [(0, 8, 11, 13)]) (by decide +kernel) rfl ?_
    intro p e s m args below meth c s₁ B hml hv
    obtain ⟨rfl, hv⟩ := hv
    have hts0 := atoms_spec (ws := ax_ws_row) B.pre
    exact ax_bodyW (j := 6) (M := ax_Mw_row) (ax_snd l d) hj hnw hev (by show 3 ≤ 4; decide) B hml (fun w hw => hts0 w (List.mem_cons_of_mem _ hw)) hv had hle hX
  · cases d with
    | zero => cases hth
    | succ d =>
    refine va_MetW (cc := method_5_code) (maxL := 4) (ret := some .int) (hh := [(0, 8, 11, 13)]) (by decide +kernel) rfl ?_
    intro p e s m args below meth c s₁ B hml hv
    obtain ⟨rfl, hv⟩ := hv
    have hts0 := atoms_spec (ws := ax_ws_row) B.pre
    have hts : ∀ w ∈ lw_g, w.before ((([.ref a, .int x, .ref o] : List Value).map (ax_cv ad ro)).toArray) s = true := fun w hw => hts0 w (List.mem_cons_of_mem _ hw)
    have htab : c.exceptionTable.toList = tableOf [(0, 8, 11, 13)] := vx_table (x := ax_Mw_row.1) B (hts0 _ List.mem_cons_self)
    obtain ⟨hsz, hP, hD0, hSt⟩ := hv
    have hx := B.exec
    have hb := B.bytes
    have hr := B.returns
    have hown : s.vm.findClass "BargesByBreathLaw" = some m.cls := findClass_of_methodNamed B.named
    have hlocks := B.notSynchronized
    subst hsz
    have hD := hD0.self (sz := s.heap.size)
    generalize hAe : va_A (ax_cw dA ad ro H.1) s.heap.size = A at hD hSt ⊢
    have hA : ∀ q : Nat, s.heap.size ≤ q → A q := fun q h => by rw [← hAe]; exact Or.inr h
    have hl := lv_entry (([.ref a, .int x, .ref o] : List Value).map (ax_cv ad ro)) (n := 4) (by rw [ax_wid_sl]; show 3 ≤ 4; decide)
    rw [lg_entry_eq]
    rw [← ax_arg_cl] at hl
    have C : ax_CT D dA ro X A p (headSpec ax_ws_row (ax_rm (d + 1 + 1) (H'.2.1.1 - H.2.1.1) (H'.2.1.2 - H.2.1.2))).room s m ((([.ref a, .int x, .ref o] : List Value).map (ax_cv ad ro)).toArray) meth c ax_Mw_row (d + 1 + 1) := ⟨hx, hb, hml, hown, hts, fun h => absurd h (by show ¬ ("row" = "<init>"); decide), hA, hSt, Nat.le_refl _, Nat.le_refl _⟩
    have V0 : ax_IV D dA ro X A s 4 H.2.1.1 H.2.1.2 ad [(0, .ref a), (1, .int x), (2, .ref o)] H s.heap [] 0 0 _ ad := ⟨hP, hD, va_S.rf, hl, had, hle, hX, rfl, rfl, [], (List.append_nil ad).symm⟩
    have ok : ∀ e ∈ tb_6, ax_PE ax_Mw_row e := ok_6
    refine ax_s1_W C (ok _ (List.mem_of_getElem? (i := 0) (by rfl : tb_6[0]? = some (0, .aload_n 2, 1, 0, 0, 0)))) V0 (q := (1, [(0, .ref a), (1, .int x), (2, .ref o)], [.ref o], H)) rfl (Nat.le_add_right _ _) (Nat.le_add_right _ _) (fun Hm locs cells slots ls ad2 V => ?_)
    refine ax_s1_W C (ok _ (List.mem_of_getElem? (i := 1) (by rfl : tb_6[1]? = some (1, .iconst 0, 1, 0, 0, 0)))) V (q := (2, [(0, .ref a), (1, .int x), (2, .ref o)], [.int 0, .ref o], H)) rfl (Nat.le_add_right _ _) (Nat.le_add_right _ _) (fun Hm locs cells slots ls ad2 V => ?_)
    refine ax_s1_W C (ok _ (List.mem_of_getElem? (i := 2) (by rfl : tb_6[2]? = some (2, .aload_n 0, 1, 0, 0, 0)))) V (q := (3, [(0, .ref a), (1, .int x), (2, .ref o)], [.ref a, .int 0, .ref o], H)) rfl (Nat.le_add_right _ _) (Nat.le_add_right _ _) (fun Hm locs cells slots ls ad2 V => ?_)
    refine ax_s1_W C (ok _ (List.mem_of_getElem? (i := 3) (by rfl : tb_6[3]? = some (3, .iload_n 1, 1, 0, 0, 0)))) V (q := (4, [(0, .ref a), (1, .int x), (2, .ref o)], [.int x, .ref a, .int 0, .ref o], H)) rfl (Nat.le_add_right _ _) (Nat.le_add_right _ _) (fun Hm locs cells slots ls ad2 V => ?_)
    have V : ax_IV D dA ro X A s 4 H.2.1.1 H.2.1.2 ad [(0, .ref a), (1, .int x), (2, .ref o)] H Hm locs cells slots ls ad2 := V
    obtain ⟨vP, vD, vS, vl, vad, vle, vX, vcc, vss, ex0, hex0⟩ := id V
    have e0 : ex0 = [] := by
      have h1 := congrArg List.length hex0
      rw [List.length_append] at h1
      exact List.eq_nil_of_length_eq_zero (by omega)
    rw [e0, List.append_nil] at hex0
    subst hex0
    have hc0 : cells = 0 := by omega
    have hs0 : slots = 0 := by omega
    subst hc0
    subst hs0
    have hM' : ax_mt[271]? = some ax_Mm_row := by rfl
    have hmem : ax_Mm_row ∈ ax_mt := List.mem_of_getElem? hM'
    have hPE := ok _ (List.mem_of_getElem? (i := 4) (by rfl : tb_6[4]? = some (4, .invokevirtual 18, 3, 271, 201, 8)))
    have hcd : Cond.code ax_Mm_row.1 ax_Mm_row.2.1 ax_Mm_row.2.2.1 ax_Mm_row.2.2.2.1 ∈ lw_g ∧ plainName ax_Mm_row.1.cls = true ∧ ax_Mm_row.2.2.1 ≤ 21 := ((ax_co_all _ hmem).resolve_left (by decide)).resolve_left (by decide)
    have h9 := hPE.2.2
    simp only [ax_nm, Bool.and_eq_true] at h9
    obtain ⟨M2, hM2, -, -, hdd, hr2, -⟩ := ax_cal_inv h9.2.1
    cases Option.some.inj (hM2.symm.trans hM')
    have hwds : ∀ w ∈ [Cond.methodLink "BargesByBreathLaw" 18 ax_Mm_row.1, Cond.instanceMethod ax_Mm_row.1, Cond.selects ax_Mm_row.1.cls ax_Mm_row.1 ax_Mm_row.1, Cond.initialized ax_Mm_row.1.cls], w.before ((([.ref a, .int x, .ref o] : List Value).map (ax_cv ad2 ro)).toArray) s = true := fun w hw9 => hts _ (hPE.2.1 _ (by
      show w ∈ (match ax_mt[271]? with
        | some M => [Cond.methodLink _ 18 M.1, Cond.instanceMethod M.1, Cond.selects M.1.cls M.1 M.1, Cond.initialized M.1.cls]
        | none => [])
      rw [hM']; exact hw9))
    have hlk := hwds _ List.mem_cons_self
    have hins := hwds _ (List.mem_cons_of_mem _ List.mem_cons_self)
    have hsel := hwds _ (List.mem_cons_of_mem _ (List.mem_cons_of_mem _ List.mem_cons_self))
    have hini := hwds _ (List.mem_cons_of_mem _ (List.mem_cons_of_mem _ (List.mem_cons_of_mem _ List.mem_cons_self)))
    have hMet := ax_sndx l hst d hM' (by decide) (by decide) hth (by show 2 ≤ ax_Mm_row.2.2.1; decide) D dA ro X ad2 Hm.size had hle hX
    obtain ⟨fs, hfs⟩ := Option.isSome_iff_exists.mp hob
    obtain ⟨ha9, he9⟩ := ax_obj_inv hfs
    have hrecv := va_recv hSt.1 vP (by rfl : vwCl[8]? = some (RX9, TX9, 9)) (ax_cw_at (dA := dA) (ro := ro) had hle he9)
    have hp : PreV s Hm "BargesByBreath" (ax_ca ad2 ro a) (va_Pc (([.ref a, .int x] : List Value).map (ax_cv ad2 ro)) (ax_PP D dA ro X H ad2 Hm.size)) (([.int x] : List Value).map (ax_cv ad2 ro)) := ⟨ax_blind, hrecv, ax_pre hA hSt V [.ref a, .int x]⟩
    have hrun := vx_runV (rest := [.int 0, .ref (ax_ca ad2 ro o)]) ⟨hx, hb, hml, hown, hts⟩ hMet ⟨ax_callB (R := (headSpec ax_ws_row (ax_rm (d + 1 + 1) (H'.2.1.1 - H.2.1.1) (H'.2.1.2 - H.2.1.2))).room) (d := d + 1) (mc := H'.2.1.1 - H.2.1.1) (ms := H'.2.1.2 - H.2.1.2) hts hcd.1 hcd.2.2 hini hlk hdd (Nat.le_refl _) (Nat.le_refl _), hins, hsel⟩ hp (g := F0 m 4 ls (([.int x, .ref a, .int 0, .ref o] : List Value).map (ax_cv ad2 ro))) rfl rfl vl.1 rfl (lv_room (by show 2 ≤ 8; decide)) hPE.1 ⟨by show 0 + _ ≤ _; rw [Nat.zero_add]; exact Nat.le_refl _, by show 0 + _ ≤ _; rw [Nat.zero_add]; exact Nat.le_refl _⟩ (p := p) (e := e) (below := below) (meth := meth) (locs := locs) (cells := 0) (slots := 0)
    intro T hT X9
    rcases hrun T hT X9 with ⟨_, _, _, _, _, _, _, _, _, _, hF, _⟩ | ⟨q, st₀, t, T', L9, E, ce, h0, X', hL9, e1, e2, hxc, hce, hcv, hcl, st⟩
    · exact hF.elim
    obtain ⟨rfl, ex, p1, d1, l1, l2, x1, hz, hk⟩ := hxc
    rw [h0] at hz hk
    have hsub : ∀ q, va_A (ax_cw dA ad2 ro H.1) Hm.size q → A q := fun q h => by
      rcases h with ⟨k, e9, h⟩ | h
      · exact vD.2 k (q, e9) h
      · exact hA q (Nat.le_trans vS.1 h)
    have hlocs : ∀ q ∈ locs ++ L9, A q.base := fun q hq => by
      rcases List.mem_append.mp hq with h | h
      · exact vS.2.2 q h
      · exact hsub _ (hL9 q h)
    have hF : ∀ t9 : State, t9.heap = T'.heap → va_F A s t9 := fun t9 ht9 => ⟨by rw [ht9, e1]; exact Nat.le_trans vS.1 hz, fun q h1 h2 => by rw [ht9, e1, hk q (Nat.lt_of_lt_of_le h1 vS.1) (fun z => h2 (hsub q z))]; exact vS.2.1 q h1 h2⟩
    have kW : W p l e (headSpec ax_ws_row (ax_rm (d + 1 + 1) (H'.2.1.1 - H.2.1.1) (H'.2.1.2 - H.2.1.2))).room s m ((([.ref a, .int x, .ref o] : List Value).map (ax_cv ad2 ro)).toArray) below meth c T'.heap (locs ++ L9) (0 + (H'.2.1.1 - H.2.1.1)) (0 + (H'.2.1.2 - H.2.1.2)) (MQ below (ax_QQ D dA ro X ad2 A H' (some (.int 1))) ((([.ref a, .int x, .ref o] : List Value).map (ax_cv ad2 ro)).toArray) s (H'.2.1.1 - H.2.1.1) (H'.2.1.2 - H.2.1.2) A) (F0 m 11 ls [.ref q]) := by
      rw [Nat.zero_add, Nat.zero_add]
      refine lv_astore_n hx hb (ok _ (List.mem_of_getElem? (i := 7) (by rfl : tb_6[7]? = some (11, .astore_n 3, 1, 0, 0, 0)))).1 rfl vl (by decide) rfl (fun ls2 h2 => lv_iconst hx hb (ok _ (List.mem_of_getElem? (i := 8) (by rfl : tb_6[8]? = some (12, .iconst 1, 1, 0, 0, 0)))).1 rfl ?_)
      exact W.iret hx hb hr (fun t9 ht9 _ => ⟨ex, rfl, by rw [ht9, e1]; exact p1, d1.weaken (fun k q _ h => hsub q.1 h), l1, l2, x1, hF t9 ht9⟩) hlocs (ok _ (List.mem_of_getElem? (i := 9) (by rfl : tb_6[9]? = some (13, .ireturn, 1, 0, 0, 0)))).1 hlocks
    obtain ⟨t2, a1, b1⟩ := ax_catch (own := "BargesByBreathLaw") (name := ax_NSE) (E := ax_NSE) (pc := 4) (rest := [.int 0, .ref (ax_ca ad2 ro o)]) hown ⟨0, 8, 11, 13⟩ htab (by decide) (by decide) (hts _ (lw_g_of (List.mem_of_getElem? (i := 955) (by decide +kernel)) rfl)) (va_Nw.use rfl (hSt.2.2.2.2.2.1 _ List.mem_cons_self)) (by rw [e1]; exact hce) hcv hcl kW T' rfl X'
    exact ⟨t2, st.trans a1, b1⟩
