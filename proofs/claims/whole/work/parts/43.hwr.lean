/-! The law's calls of Law.barge, Law.passenger, Law.row -/
section AXT
variable {p : Program} {l : Launch} {e : Env} {R : Room} {s : State} {m : MethodId} {args : Array Value} {below : List Frame} {meth : Method} {c : Code} {Q : State → Prop}
variable {ad0 : List Nat} {D : va_G} {dA : FieldType → ClassId} {ro : Nat → Nat} {X : Nat × (Nat → Int32)} {A : Nat → Prop} {M : ax_M} {d c0 s0 : Nat}
variable {pc len r2 r3 : Nat}
theorem ax_dd_barge : (⟨"BargesByBreathLaw", "barge", "(LBargesByBreath;II[J)I"⟩ : MethodName).cls ≠ "java/lang/invoke/MethodHandle" ∧ (⟨"BargesByBreathLaw", "barge", "(LBargesByBreath;II[J)I"⟩ : MethodName).cls ≠ "java/lang/invoke/VarHandle" ∧ (parseMethodDescriptor (⟨"BargesByBreathLaw", "barge", "(LBargesByBreath;II[J)I"⟩ : MethodName).desc).map (fun d => d.parameters.length) = some 4 := by decide +kernel
theorem ax_wp_barge {i : Nat} (hst : l.stackTraces = false) (C : ax_CT D dA ro X A p R s m args meth c M (d + 1)) (hM : ax_PE M (pc, .invokestatic i, len, 4, r2, r3)) (hf2 : 2 * (d + 2) + 20 ≤ R.frames) (hl2 : 80 * (d + 2) + 200 ≤ R.locals) : ax_WP p l e R s m args below meth c Q D dA ro X A M.2.2.1 c0 s0 ad0 d (pc, .invokestatic i, len, 4, r2, r3) := by
  intro L S H Hm locs cells slots ls ad q V h hc hs kk
  have hqle := ax_call_le (ev_le d) h
  obtain ⟨hx, hb, hml, hown, hts, hnm, hA, hSt, hfr, hlo⟩ := id C
  obtain ⟨hP, hD, hS, hl, had, hle, hX, hcc, hss, hpre⟩ := id V
  have hln : len = 3 := ax_nm_len hM.2.2 (fun _ _ _ _ h => by cases h) (fun _ _ h => by cases h)
  subst hln
  have hd : decode M.2.1 pc = .ok (.invokestatic i, 3) := hM.1
  simp only [ax_call] at h
  simp only [show Nat.beq 4 998 = false from rfl, show Nat.beq 4 4 = true from rfl, show Nat.beq 4 5 = false from rfl, show Nat.beq 4 6 = false from rfl, cond_false, cond_true] at h
  split at h
  · rename_i o y x a r
    obtain ⟨hw, h⟩ := ax_bif h
    simp only [Bool.and_eq_true] at hw
    split at h
    · rename_i H' k he
      obtain ⟨hlen, h⟩ := ax_bif h
      cases h
      have hwds : ∀ w ∈ [Cond.methodLink M.1.cls i ax_Mw_barge.1, Cond.static ax_Mw_barge.1, Cond.initialized ax_Mw_barge.1.cls], w ∈ lw_g := fun w hw9 => hM.2.1 _ hw9
      have hgood : GoodIn lw_g (va_wsS M.1.cls i ax_Mw_barge.1 ax_ws_barge) := fun w hw9 => by
        unfold va_wsS at hw9
        rcases List.mem_append.mp hw9 with h1 | h1
        · exact lw_g_good _ (hwds w h1)
        · rcases List.mem_cons.mp h1 with rfl | h2
          · exact lw_g_good _ ax_cw_barge
          · exact lw_g_good _ h2
      have hrm := ax_room V hc hs hqle
      have hp : PreS s Hm (va_Pc (([.ref a, .int x, .int y, .ref o] : List Value).map (ax_cv ad ro)) (ax_PP D dA ro X H ad Hm.size)) (([.ref a, .int x, .int y, .ref o] : List Value).map (ax_cv ad ro)) := ⟨ax_blind, ax_pre hA hSt V [.ref a, .int x, .int y, .ref o]⟩
      have hRR : (ax_rm (d + 1) (H'.2.1.1 - H.2.1.1) (H'.2.1.2 - H.2.1.2)).frames + 1 ≤ R.frames ∧ 8 + (5 + 11) + (ax_rm (d + 1) (H'.2.1.1 - H.2.1.1) (H'.2.1.2 - H.2.1.2)).locals ≤ R.locals := by
        simp only [ax_rm]
        omega
      have hcw := vx_cwSW (R := R) (own := M.1.cls) (index := i) (y := ax_Mw_barge.1) (maxL := 5) (Ts := lw_g) (ws := ax_ws_barge) (ws' := lw_g) (rm := ax_rm (d + 1) (H'.2.1.1 - H.2.1.1) (H'.2.1.2 - H.2.1.2)) (mc := H'.2.1.1 - H.2.1.1) (ms := H'.2.1.2 - H.2.1.2) 4 hts hgood rfl rfl rfl ax_dd_barge hRR
      exact ax_ret_W (H' := H') (v := some (.int k)) (r := r) V hA (vx_runSW ⟨hx, hb, hml, hown, hts⟩ (ax_met_barge l hst d hw.2 he hlen D dA ro X ad Hm.size had hle hX) hcw hp rfl rfl hl.1 rfl (lv_room (ax_wid_cv hw.1)) hd hrm) hqle (by unfold ax_kp; rw [hlen]; rfl) kk
    · cases h
  · cases h
theorem ax_dd_passenger : (⟨"BargesByBreathLaw", "passenger", "(LBargesByBreath;II[J)I"⟩ : MethodName).cls ≠ "java/lang/invoke/MethodHandle" ∧ (⟨"BargesByBreathLaw", "passenger", "(LBargesByBreath;II[J)I"⟩ : MethodName).cls ≠ "java/lang/invoke/VarHandle" ∧ (parseMethodDescriptor (⟨"BargesByBreathLaw", "passenger", "(LBargesByBreath;II[J)I"⟩ : MethodName).desc).map (fun d => d.parameters.length) = some 4 := by decide +kernel
theorem ax_wp_passenger {i : Nat} (hst : l.stackTraces = false) (C : ax_CT D dA ro X A p R s m args meth c M (d + 1)) (hM : ax_PE M (pc, .invokestatic i, len, 5, r2, r3)) (hf2 : 2 * (d + 2) + 20 ≤ R.frames) (hl2 : 80 * (d + 2) + 200 ≤ R.locals) : ax_WP p l e R s m args below meth c Q D dA ro X A M.2.2.1 c0 s0 ad0 d (pc, .invokestatic i, len, 5, r2, r3) := by
  intro L S H Hm locs cells slots ls ad q V h hc hs kk
  have hqle := ax_call_le (ev_le d) h
  obtain ⟨hx, hb, hml, hown, hts, hnm, hA, hSt, hfr, hlo⟩ := id C
  obtain ⟨hP, hD, hS, hl, had, hle, hX, hcc, hss, hpre⟩ := id V
  have hln : len = 3 := ax_nm_len hM.2.2 (fun _ _ _ _ h => by cases h) (fun _ _ h => by cases h)
  subst hln
  have hd : decode M.2.1 pc = .ok (.invokestatic i, 3) := hM.1
  simp only [ax_call] at h
  simp only [show Nat.beq 5 998 = false from rfl, show Nat.beq 5 4 = false from rfl, show Nat.beq 5 5 = true from rfl, show Nat.beq 5 6 = false from rfl, cond_false, cond_true] at h
  split at h
  · rename_i o y x a r
    obtain ⟨hw, h⟩ := ax_bif h
    simp only [Bool.and_eq_true] at hw
    split at h
    · rename_i H' k he
      obtain ⟨hlen, h⟩ := ax_bif h
      cases h
      have hwds : ∀ w ∈ [Cond.methodLink M.1.cls i ax_Mw_passenger.1, Cond.static ax_Mw_passenger.1, Cond.initialized ax_Mw_passenger.1.cls], w ∈ lw_g := fun w hw9 => hM.2.1 _ hw9
      have hgood : GoodIn lw_g (va_wsS M.1.cls i ax_Mw_passenger.1 ax_ws_passenger) := fun w hw9 => by
        unfold va_wsS at hw9
        rcases List.mem_append.mp hw9 with h1 | h1
        · exact lw_g_good _ (hwds w h1)
        · rcases List.mem_cons.mp h1 with rfl | h2
          · exact lw_g_good _ ax_cw_passenger
          · exact lw_g_good _ h2
      have hrm := ax_room V hc hs hqle
      have hp : PreS s Hm (va_Pc (([.ref a, .int x, .int y, .ref o] : List Value).map (ax_cv ad ro)) (ax_PP D dA ro X H ad Hm.size)) (([.ref a, .int x, .int y, .ref o] : List Value).map (ax_cv ad ro)) := ⟨ax_blind, ax_pre hA hSt V [.ref a, .int x, .int y, .ref o]⟩
      have hRR : (ax_rm (d + 1) (H'.2.1.1 - H.2.1.1) (H'.2.1.2 - H.2.1.2)).frames + 1 ≤ R.frames ∧ 8 + (5 + 11) + (ax_rm (d + 1) (H'.2.1.1 - H.2.1.1) (H'.2.1.2 - H.2.1.2)).locals ≤ R.locals := by
        simp only [ax_rm]
        omega
      have hcw := vx_cwSW (R := R) (own := M.1.cls) (index := i) (y := ax_Mw_passenger.1) (maxL := 5) (Ts := lw_g) (ws := ax_ws_passenger) (ws' := lw_g) (rm := ax_rm (d + 1) (H'.2.1.1 - H.2.1.1) (H'.2.1.2 - H.2.1.2)) (mc := H'.2.1.1 - H.2.1.1) (ms := H'.2.1.2 - H.2.1.2) 4 hts hgood rfl rfl rfl ax_dd_passenger hRR
      exact ax_ret_W (H' := H') (v := some (.int k)) (r := r) V hA (vx_runSW ⟨hx, hb, hml, hown, hts⟩ (ax_met_passenger l hst d hw.2 he hlen D dA ro X ad Hm.size had hle hX) hcw hp rfl rfl hl.1 rfl (lv_room (ax_wid_cv hw.1)) hd hrm) hqle (by unfold ax_kp; rw [hlen]; rfl) kk
    · cases h
  · cases h
theorem ax_dd_row : (⟨"BargesByBreathLaw", "row", "(LBargesByBreath;I[J)I"⟩ : MethodName).cls ≠ "java/lang/invoke/MethodHandle" ∧ (⟨"BargesByBreathLaw", "row", "(LBargesByBreath;I[J)I"⟩ : MethodName).cls ≠ "java/lang/invoke/VarHandle" ∧ (parseMethodDescriptor (⟨"BargesByBreathLaw", "row", "(LBargesByBreath;I[J)I"⟩ : MethodName).desc).map (fun d => d.parameters.length) = some 3 := by decide +kernel
theorem ax_wp_row {i : Nat} (hst : l.stackTraces = false) (C : ax_CT D dA ro X A p R s m args meth c M (d + 1)) (hM : ax_PE M (pc, .invokestatic i, len, 6, r2, r3)) (hf2 : 2 * (d + 2) + 20 ≤ R.frames) (hl2 : 80 * (d + 2) + 200 ≤ R.locals) : ax_WP p l e R s m args below meth c Q D dA ro X A M.2.2.1 c0 s0 ad0 d (pc, .invokestatic i, len, 6, r2, r3) := by
  intro L S H Hm locs cells slots ls ad q V h hc hs kk
  have hqle := ax_call_le (ev_le d) h
  obtain ⟨hx, hb, hml, hown, hts, hnm, hA, hSt, hfr, hlo⟩ := id C
  obtain ⟨hP, hD, hS, hl, had, hle, hX, hcc, hss, hpre⟩ := id V
  have hln : len = 3 := ax_nm_len hM.2.2 (fun _ _ _ _ h => by cases h) (fun _ _ h => by cases h)
  subst hln
  have hd : decode M.2.1 pc = .ok (.invokestatic i, 3) := hM.1
  simp only [ax_call] at h
  simp only [show Nat.beq 6 998 = false from rfl, show Nat.beq 6 4 = false from rfl, show Nat.beq 6 5 = false from rfl, show Nat.beq 6 6 = true from rfl, cond_false, cond_true] at h
  split at h
  · rename_i o x a r
    obtain ⟨hw, h⟩ := ax_bif h
    simp only [Bool.and_eq_true] at hw
    split at h
    · rename_i H' k he
      obtain ⟨hlen, h⟩ := ax_bif h
      cases h
      have hwds : ∀ w ∈ [Cond.methodLink M.1.cls i ax_Mw_row.1, Cond.static ax_Mw_row.1, Cond.initialized ax_Mw_row.1.cls], w ∈ lw_g := fun w hw9 => hM.2.1 _ hw9
      have hgood : GoodIn lw_g (va_wsS M.1.cls i ax_Mw_row.1 ax_ws_row) := fun w hw9 => by
        unfold va_wsS at hw9
        rcases List.mem_append.mp hw9 with h1 | h1
        · exact lw_g_good _ (hwds w h1)
        · rcases List.mem_cons.mp h1 with rfl | h2
          · exact lw_g_good _ ax_cw_row
          · exact lw_g_good _ h2
      have hrm := ax_room V hc hs hqle
      have hp : PreS s Hm (va_Pc (([.ref a, .int x, .ref o] : List Value).map (ax_cv ad ro)) (ax_PP D dA ro X H ad Hm.size)) (([.ref a, .int x, .ref o] : List Value).map (ax_cv ad ro)) := ⟨ax_blind, ax_pre hA hSt V [.ref a, .int x, .ref o]⟩
      have hRR : (ax_rm (d + 1) (H'.2.1.1 - H.2.1.1) (H'.2.1.2 - H.2.1.2)).frames + 1 ≤ R.frames ∧ 8 + (4 + 11) + (ax_rm (d + 1) (H'.2.1.1 - H.2.1.1) (H'.2.1.2 - H.2.1.2)).locals ≤ R.locals := by
        simp only [ax_rm]
        omega
      have hcw := vx_cwSW (R := R) (own := M.1.cls) (index := i) (y := ax_Mw_row.1) (maxL := 4) (Ts := lw_g) (ws := ax_ws_row) (ws' := lw_g) (rm := ax_rm (d + 1) (H'.2.1.1 - H.2.1.1) (H'.2.1.2 - H.2.1.2)) (mc := H'.2.1.1 - H.2.1.1) (ms := H'.2.1.2 - H.2.1.2) 3 hts hgood rfl rfl rfl ax_dd_row hRR
      exact ax_ret_W (H' := H') (v := some (.int k)) (r := r) V hA (vx_runSW ⟨hx, hb, hml, hown, hts⟩ (ax_met_row l hst d hw.2 he hlen D dA ro X ad Hm.size had hle hX) hcw hp rfl rfl hl.1 rfl (lv_room (ax_wid_cv hw.1)) hd hrm) hqle (by unfold ax_kp; rw [hlen]; rfl) kk
    · cases h
  · cases h
theorem ax_hwr (hst : l.stackTraces = false) (hM : ∀ i ∈ M.2.2.2.2, ax_PE M i) (C : ax_CT D dA ro X A p R s m args meth c M (d + 1)) (hf2 : 2 * (d + 2) + 20 ≤ R.frames) (hl2 : 80 * (d + 2) + 200 ≤ R.locals) : ∀ i ∈ M.2.2.2.2, 4 ≤ i.2.2.2.1 → i.2.2.2.1 ≤ 6 → (∃ k, i.2.1 = .invokestatic k) → ax_WP p l e R s m args below meth c Q D dA ro X A M.2.2.1 c0 s0 ad0 d i := by
  intro i hi h1 h2 h3
  have hPE := hM i hi
  obtain ⟨pc, ins, len, r1, r2, r3⟩ := i
  obtain ⟨k, hk⟩ := h3
  have hk : ins = .invokestatic k := hk
  subst hk
  have h1 : 4 ≤ r1 := h1
  have h2 : r1 ≤ 6 := h2
  have h4 : r1 = 4 ∨ r1 = 5 ∨ r1 = 6 := by omega
  rcases h4 with rfl | rfl | rfl
  · exact ax_wp_barge hst C hPE hf2 hl2
  · exact ax_wp_passenger hst C hPE hf2 hl2
  · exact ax_wp_row hst C hPE hf2 hl2
end AXT
