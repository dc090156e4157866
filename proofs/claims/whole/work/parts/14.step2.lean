/-! Rows, makings, statics -/
section AXT
variable {p : Program} {l : Launch} {e : Env} {R : Room} {s : State} {m : MethodId} {args : Array Value} {below : List Frame} {meth : Method} {c : Code} {Q : State → Prop}
variable {ad0 : List Nat} {D : va_G} {dA : FieldType → ClassId} {ro : Nat → Nat} {X : Nat × (Nat → Int32)} {A : Nat → Prop} {M : ax_M} {d c0 s0 : Nat}
variable {pc len r1 r2 r3 : Nat} {L : ax_L} {S : List Value} {H : ax_H} {Hm : Heap} {locs : List Loc} {cells slots : Nat} {ls : Array Slot} {ad : List Nat} {q : ax_S}
theorem ax_math_abs : ax_mt[1]? = some (⟨"java/lang/Math", "abs", "(I)I"⟩, prog_16_method_59_code, 1, some .int, tb_1) := by rfl
theorem ax_mc_abs : Cond.code Lib.Math.abs.name Lib.Math.abs.code 1 (some .int) ∈ lw_g := lw_g_of (List.mem_of_getElem? (i := 638) (by decide +kernel)) rfl
theorem ax_math_max : ax_mt[2]? = some (⟨"java/lang/Math", "max", "(II)I"⟩, prog_16_method_65_code, 2, some .int, tb_2) := by rfl
theorem ax_mc_max : Cond.code Lib.Math.max.name Lib.Math.max.code 2 (some .int) ∈ lw_g := lw_g_of (List.mem_of_getElem? (i := 519) (by decide +kernel)) rfl
theorem ax_math_min : ax_mt[3]? = some (⟨"java/lang/Math", "min", "(II)I"⟩, prog_16_method_69_code, 2, some .int, tb_3) := by rfl
theorem ax_mc_min : Cond.code Lib.Math.min.name Lib.Math.min.code 2 (some .int) ∈ lw_g := lw_g_of (List.mem_of_getElem? (i := 392) (by decide +kernel)) rfl
theorem ax_rom_ty {a n : Nat} {ty : FieldType} {f : Nat → Int32} (h : ax_rom a = some (ty, n, f)) : ty = .char ∨ ty = .int := by
  unfold ax_rom at h
  cases h1 : Nat.beq a 1000001 with
  | true => rw [h1] at h; cases h; exact Or.inl rfl
  | false =>
    rw [h1] at h
    cases h2 : Nat.beq a 1000002 with
    | true => rw [h2] at h; cases h; exact Or.inr rfl
    | false =>
      rw [h2] at h
      cases h3 : Nat.beq a 1000003 with
      | true => rw [h3] at h; cases h; exact Or.inr rfl
      | false => rw [h3] at h; cases h
theorem ax_ca_ro {ad : List Nat} {ro : Nat → Nat} {a : Nat} (h : 1000000 ≤ a) : ax_ca ad ro a = ro (a - 1000000) := by unfold ax_ca; rw [if_pos h]
theorem ax_st_rom {D : va_G} {dA : FieldType → ClassId} {ro : Nat → Nat} {X : Nat × (Nat → Int32)} {A : Nat → Prop} {U : State} {Hm : Heap} (h : ax_St D dA ro X A U Hm) {a n : Nat} {ty : FieldType} {f : Nat → Int32} (ha : 1000000 < a) (hr : ax_rom a = some (ty, n, f)) : va_T ty (ro (a - 1000000)) n (fun j => .int (f j)) A U Hm ∧ va_Z (ax_sn a).1 (ax_sn a).2.1 (ax_sn a).2.2 (.ref (ro (a - 1000000))) A U Hm := by
  have e : 1000000 + (a - 1000000) = a := by omega
  have h1 := h.2.2.2.1 (a - 1000000) ty n f (by rw [e]; exact hr)
  rw [e] at h1
  exact h1
theorem ax_w_getstatic {i : Nat} (C : ax_CT D dA ro X A p R s m args meth c M d) (hM : ax_PE M (pc, .getstatic i, len, r1, r2, r3)) (V : ax_IV D dA ro X A s M.2.2.1 c0 s0 ad0 L H Hm locs cells slots ls ad) (h : ax_s1 (pc, .getstatic i, len, r1, r2, r3) L S H = some q) (hc : q.2.2.2.2.1.1 ≤ c0 + R.cells) (hs : q.2.2.2.2.1.2 ≤ s0 + R.slots) (kk : ax_KK p l e R s m args below meth c Q D dA ro X A M.2.2.1 c0 s0 ad0 q) : W p l e R s m args below meth c Hm locs cells slots Q (F0 m pc ls (S.map (ax_cv ad ro))) := by
  obtain ⟨hx, hb, hml, hown, hts, hnm, hA, hSt, hfr, hlo⟩ := id C
  obtain ⟨hP, hD, hS, hl, had, hle, hX, hcc, hss, hpre⟩ := id V
  have hln : len = 3 := ax_nm_len hM.2.2 (fun _ _ _ _ h => by cases h) (fun _ _ h => by cases h)
  subst hln
  have hd : decode M.2.1 pc = .ok (.getstatic i, 3) := hM.1
  have h9 := hM.2.2
  simp only [ax_nm, Bool.and_eq_true, Bool.or_eq_true] at h9
  have hr : 1000000 < r1 ∧ ∃ ty n f, ax_rom r1 = some (ty, n, f) := by
    rcases h9.2 with z | z | z <;> (rw [Nat.eq_of_beq_eq_true z]; exact ⟨by omega, _, _, _, rfl⟩)
  obtain ⟨h0, ty, n, f, hrm⟩ := hr
  have hZ := (ax_st_rom hSt h0 hrm).2
  cases h
  have hk := kk Hm locs cells slots ls ad V
  have e1 : ax_cv ad ro (.ref r1) = .ref (ro (r1 - 1000000)) := by show Value.ref (ax_ca ad ro r1) = _; rw [ax_ca_ro (by omega)]
  simp only [List.map_cons, e1] at hk
  exact va_gets hx hb hZ hS hown (hts _ (hM.2.1 _ List.mem_cons_self)) (fun _ h => h) hd hk
theorem ax_w_iaload  (C : ax_CT D dA ro X A p R s m args meth c M d) (hM : ax_PE M (pc, .iaload, len, r1, r2, r3)) (V : ax_IV D dA ro X A s M.2.2.1 c0 s0 ad0 L H Hm locs cells slots ls ad) (h : ax_s1 (pc, .iaload, len, r1, r2, r3) L S H = some q) (hc : q.2.2.2.2.1.1 ≤ c0 + R.cells) (hs : q.2.2.2.2.1.2 ≤ s0 + R.slots) (kk : ax_KK p l e R s m args below meth c Q D dA ro X A M.2.2.1 c0 s0 ad0 q) : W p l e R s m args below meth c Hm locs cells slots Q (F0 m pc ls (S.map (ax_cv ad ro))) := by
  obtain ⟨hx, hb, hml, hown, hts, hnm, hA, hSt, hfr, hlo⟩ := id C
  obtain ⟨hP, hD, hS, hl, had, hle, hX, hcc, hss, hpre⟩ := id V
  have hln : len = 1 := ax_nm_len hM.2.2 (fun _ _ _ _ h => by cases h) (fun _ _ h => by cases h)
  subst hln
  have hd : decode M.2.1 pc = .ok (.iaload, 1) := hM.1
  obtain ⟨i, a, r, ty, n, f, rfl, hr, hok, hin, rfl⟩ := ax_al_inv h
  have hty : ty = .int := by cases ty <;> first | exact rfl | exact Or.inl rfl | exact Or.inr rfl | cases hok
  have hk := kk Hm locs cells slots ls ad V
  rcases ax_row_inv hr with ⟨ha, he⟩ | ⟨rfl, rfl, hXX⟩ | ⟨ha, hrm⟩
  · subst hty
    obtain ⟨t, ht⟩ := ax_ty_at (dA := dA) (ty := .int) (by simp)
    exact va_iald hx hb hSt.1 hP a t (ax_cw_at (dA := dA) (ro := ro) had hle he) ht hin hd hk
  · rw [hX] at hXX
    cases X
    cases hXX
    have e1 : ax_cv ad ro (.ref 1000000) = .ref (ro 0) := rfl
    simp only [List.map_cons, e1]
    exact va_ti hx hb hSt.2.2.1 hS hin rfl hd hk
  · subst hty
    have e1 : ax_cv ad ro (.ref a) = .ref (ro (a - 1000000)) := by show Value.ref (ax_ca ad ro a) = _; rw [ax_ca_ro (by omega)]
    simp only [List.map_cons, e1]
    exact va_ti hx hb (ax_st_rom hSt ha hrm).1 hS hin rfl hd hk
theorem ax_w_baload  (C : ax_CT D dA ro X A p R s m args meth c M d) (hM : ax_PE M (pc, .baload, len, r1, r2, r3)) (V : ax_IV D dA ro X A s M.2.2.1 c0 s0 ad0 L H Hm locs cells slots ls ad) (h : ax_s1 (pc, .baload, len, r1, r2, r3) L S H = some q) (hc : q.2.2.2.2.1.1 ≤ c0 + R.cells) (hs : q.2.2.2.2.1.2 ≤ s0 + R.slots) (kk : ax_KK p l e R s m args below meth c Q D dA ro X A M.2.2.1 c0 s0 ad0 q) : W p l e R s m args below meth c Hm locs cells slots Q (F0 m pc ls (S.map (ax_cv ad ro))) := by
  obtain ⟨hx, hb, hml, hown, hts, hnm, hA, hSt, hfr, hlo⟩ := id C
  obtain ⟨hP, hD, hS, hl, had, hle, hX, hcc, hss, hpre⟩ := id V
  have hln : len = 1 := ax_nm_len hM.2.2 (fun _ _ _ _ h => by cases h) (fun _ _ h => by cases h)
  subst hln
  have hd : decode M.2.1 pc = .ok (.baload, 1) := hM.1
  obtain ⟨i, a, r, ty, n, f, rfl, hr, hok, hin, rfl⟩ := ax_al_inv h
  have hty : ty = .byte ∨ ty = .boolean := by cases ty <;> first | exact rfl | exact Or.inl rfl | exact Or.inr rfl | cases hok
  have hk := kk Hm locs cells slots ls ad V
  rcases ax_row_inv hr with ⟨ha, he⟩ | ⟨rfl, rfl, hXX⟩ | ⟨ha, hrm⟩
  · rcases hty with rfl | rfl
    · obtain ⟨t, ht⟩ := ax_ty_at (dA := dA) (ty := .byte) (by simp)
      exact va_bald hx hb hSt.1 hP a t (ax_cw_at (dA := dA) (ro := ro) had hle he) ht hin hd hk
    · obtain ⟨t, ht⟩ := ax_ty_at (dA := dA) (ty := .boolean) (by simp)
      exact va_zald hx hb hSt.1 hP a t (ax_cw_at (dA := dA) (ro := ro) had hle he) ht hin hd hk
  · rcases hty with z | z <;> cases z
  · rcases ax_rom_ty hrm with rfl | rfl <;> (rcases hty with z | z <;> cases z)
theorem ax_w_caload  (C : ax_CT D dA ro X A p R s m args meth c M d) (hM : ax_PE M (pc, .caload, len, r1, r2, r3)) (V : ax_IV D dA ro X A s M.2.2.1 c0 s0 ad0 L H Hm locs cells slots ls ad) (h : ax_s1 (pc, .caload, len, r1, r2, r3) L S H = some q) (hc : q.2.2.2.2.1.1 ≤ c0 + R.cells) (hs : q.2.2.2.2.1.2 ≤ s0 + R.slots) (kk : ax_KK p l e R s m args below meth c Q D dA ro X A M.2.2.1 c0 s0 ad0 q) : W p l e R s m args below meth c Hm locs cells slots Q (F0 m pc ls (S.map (ax_cv ad ro))) := by
  obtain ⟨hx, hb, hml, hown, hts, hnm, hA, hSt, hfr, hlo⟩ := id C
  obtain ⟨hP, hD, hS, hl, had, hle, hX, hcc, hss, hpre⟩ := id V
  have hln : len = 1 := ax_nm_len hM.2.2 (fun _ _ _ _ h => by cases h) (fun _ _ h => by cases h)
  subst hln
  have hd : decode M.2.1 pc = .ok (.caload, 1) := hM.1
  obtain ⟨i, a, r, ty, n, f, rfl, hr, hok, hin, rfl⟩ := ax_al_inv h
  have hty : ty = .char := by cases ty <;> first | exact rfl | exact Or.inl rfl | exact Or.inr rfl | cases hok
  have hk := kk Hm locs cells slots ls ad V
  rcases ax_row_inv hr with ⟨ha, he⟩ | ⟨rfl, rfl, hXX⟩ | ⟨ha, hrm⟩
  · subst hty
    obtain ⟨t, ht⟩ := ax_ty_at (dA := dA) (ty := .char) (by simp)
    exact va_cald hx hb hSt.1 hP a t (ax_cw_at (dA := dA) (ro := ro) had hle he) ht hin hd hk
  · cases hty
  · subst hty
    have e1 : ax_cv ad ro (.ref a) = .ref (ro (a - 1000000)) := by show Value.ref (ax_ca ad ro a) = _; rw [ax_ca_ro (by omega)]
    simp only [List.map_cons, e1]
    exact va_tc hx hb (ax_st_rom hSt ha hrm).1 hS hin rfl hd hk
theorem ax_w_laload  (C : ax_CT D dA ro X A p R s m args meth c M d) (hM : ax_PE M (pc, .laload, len, r1, r2, r3)) (V : ax_IV D dA ro X A s M.2.2.1 c0 s0 ad0 L H Hm locs cells slots ls ad) (h : ax_s1 (pc, .laload, len, r1, r2, r3) L S H = some q) (hc : q.2.2.2.2.1.1 ≤ c0 + R.cells) (hs : q.2.2.2.2.1.2 ≤ s0 + R.slots) (kk : ax_KK p l e R s m args below meth c Q D dA ro X A M.2.2.1 c0 s0 ad0 q) : W p l e R s m args below meth c Hm locs cells slots Q (F0 m pc ls (S.map (ax_cv ad ro))) := by
  obtain ⟨hx, hb, hml, hown, hts, hnm, hA, hSt, hfr, hlo⟩ := id C
  obtain ⟨hP, hD, hS, hl, had, hle, hX, hcc, hss, hpre⟩ := id V
  have hln : len = 1 := ax_nm_len hM.2.2 (fun _ _ _ _ h => by cases h) (fun _ _ h => by cases h)
  subst hln
  have hd : decode M.2.1 pc = .ok (.laload, 1) := hM.1
  simp only [ax_s1] at h
  split at h
  · rename_i i a r
    split at h
    · rename_i n f hr
      obtain ⟨hin, h⟩ := ax_bif h
      cases h
      obtain ⟨ha, he⟩ := ax_rowL_inv hr
      obtain ⟨t, ht⟩ := ax_ty_at (dA := dA) (ty := .long) (by simp)
      exact va_lald hx hb hSt.1 hP a t (ax_cw_at (dA := dA) (ro := ro) had hle he) ht (ax_ix_in hin) hd (kk Hm locs cells slots ls ad V)
    · cases h
  · cases h
theorem ax_w_iastore  (C : ax_CT D dA ro X A p R s m args meth c M d) (hM : ax_PE M (pc, .iastore, len, r1, r2, r3)) (V : ax_IV D dA ro X A s M.2.2.1 c0 s0 ad0 L H Hm locs cells slots ls ad) (h : ax_s1 (pc, .iastore, len, r1, r2, r3) L S H = some q) (hc : q.2.2.2.2.1.1 ≤ c0 + R.cells) (hs : q.2.2.2.2.1.2 ≤ s0 + R.slots) (kk : ax_KK p l e R s m args below meth c Q D dA ro X A M.2.2.1 c0 s0 ad0 q) : W p l e R s m args below meth c Hm locs cells slots Q (F0 m pc ls (S.map (ax_cv ad ro))) := by
  obtain ⟨hx, hb, hml, hown, hts, hnm, hA, hSt, hfr, hlo⟩ := id C
  obtain ⟨hP, hD, hS, hl, had, hle, hX, hcc, hss, hpre⟩ := id V
  have hln : len = 1 := ax_nm_len hM.2.2 (fun _ _ _ _ h => by cases h) (fun _ _ h => by cases h)
  subst hln
  have hd : decode M.2.1 pc = .ok (.iastore, 1) := hM.1
  obtain ⟨x, i, a, r, ty, n, f, rfl, ha, he, hok, hin, rfl⟩ := ax_as_inv h
  have hty : ty = .int := by cases ty <;> first | exact rfl | exact Or.inl rfl | exact Or.inr rfl | cases hok
  subst hty
  obtain ⟨t, ht⟩ := ax_ty_at (dA := dA) (ty := .int) (by simp)
  exact va_iast hx hb hSt.1 hP hD hS a t (ax_cw_at (dA := dA) (ro := ro) had hle he) ht hin hd (fun H1 locs1 p1 d1 s1 => kk H1 locs1 cells slots ls ad (ax_iv_put V he p1 d1 s1))
theorem ax_w_bastore  (C : ax_CT D dA ro X A p R s m args meth c M d) (hM : ax_PE M (pc, .bastore, len, r1, r2, r3)) (V : ax_IV D dA ro X A s M.2.2.1 c0 s0 ad0 L H Hm locs cells slots ls ad) (h : ax_s1 (pc, .bastore, len, r1, r2, r3) L S H = some q) (hc : q.2.2.2.2.1.1 ≤ c0 + R.cells) (hs : q.2.2.2.2.1.2 ≤ s0 + R.slots) (kk : ax_KK p l e R s m args below meth c Q D dA ro X A M.2.2.1 c0 s0 ad0 q) : W p l e R s m args below meth c Hm locs cells slots Q (F0 m pc ls (S.map (ax_cv ad ro))) := by
  obtain ⟨hx, hb, hml, hown, hts, hnm, hA, hSt, hfr, hlo⟩ := id C
  obtain ⟨hP, hD, hS, hl, had, hle, hX, hcc, hss, hpre⟩ := id V
  have hln : len = 1 := ax_nm_len hM.2.2 (fun _ _ _ _ h => by cases h) (fun _ _ h => by cases h)
  subst hln
  have hd : decode M.2.1 pc = .ok (.bastore, 1) := hM.1
  obtain ⟨x, i, a, r, ty, n, f, rfl, ha, he, hok, hin, rfl⟩ := ax_as_inv h
  have hty : ty = .byte ∨ ty = .boolean := by cases ty <;> first | exact rfl | exact Or.inl rfl | exact Or.inr rfl | cases hok
  rcases hty with rfl | rfl
  · obtain ⟨t, ht⟩ := ax_ty_at (dA := dA) (ty := .byte) (by simp)
    exact va_bast hx hb hSt.1 hP hD hS a t (ax_cw_at (dA := dA) (ro := ro) had hle he) ht hin hd (fun H1 locs1 p1 d1 s1 => kk H1 locs1 cells slots ls ad (ax_iv_put V he p1 d1 s1))
  · obtain ⟨t, ht⟩ := ax_ty_at (dA := dA) (ty := .boolean) (by simp)
    exact va_zast hx hb hSt.1 hP hD hS a t (ax_cw_at (dA := dA) (ro := ro) had hle he) ht hin hd (fun H1 locs1 p1 d1 s1 => kk H1 locs1 cells slots ls ad (ax_iv_put V he p1 d1 s1))
theorem ax_w_castore  (C : ax_CT D dA ro X A p R s m args meth c M d) (hM : ax_PE M (pc, .castore, len, r1, r2, r3)) (V : ax_IV D dA ro X A s M.2.2.1 c0 s0 ad0 L H Hm locs cells slots ls ad) (h : ax_s1 (pc, .castore, len, r1, r2, r3) L S H = some q) (hc : q.2.2.2.2.1.1 ≤ c0 + R.cells) (hs : q.2.2.2.2.1.2 ≤ s0 + R.slots) (kk : ax_KK p l e R s m args below meth c Q D dA ro X A M.2.2.1 c0 s0 ad0 q) : W p l e R s m args below meth c Hm locs cells slots Q (F0 m pc ls (S.map (ax_cv ad ro))) := by
  obtain ⟨hx, hb, hml, hown, hts, hnm, hA, hSt, hfr, hlo⟩ := id C
  obtain ⟨hP, hD, hS, hl, had, hle, hX, hcc, hss, hpre⟩ := id V
  have hln : len = 1 := ax_nm_len hM.2.2 (fun _ _ _ _ h => by cases h) (fun _ _ h => by cases h)
  subst hln
  have hd : decode M.2.1 pc = .ok (.castore, 1) := hM.1
  obtain ⟨x, i, a, r, ty, n, f, rfl, ha, he, hok, hin, rfl⟩ := ax_as_inv h
  have hty : ty = .char := by cases ty <;> first | exact rfl | exact Or.inl rfl | exact Or.inr rfl | cases hok
  subst hty
  obtain ⟨t, ht⟩ := ax_ty_at (dA := dA) (ty := .char) (by simp)
  exact va_cast hx hb hSt.1 hP hD hS a t (ax_cw_at (dA := dA) (ro := ro) had hle he) ht hin hd (fun H1 locs1 p1 d1 s1 => kk H1 locs1 cells slots ls ad (ax_iv_put V he p1 d1 s1))
theorem ax_w_lastore  (C : ax_CT D dA ro X A p R s m args meth c M d) (hM : ax_PE M (pc, .lastore, len, r1, r2, r3)) (V : ax_IV D dA ro X A s M.2.2.1 c0 s0 ad0 L H Hm locs cells slots ls ad) (h : ax_s1 (pc, .lastore, len, r1, r2, r3) L S H = some q) (hc : q.2.2.2.2.1.1 ≤ c0 + R.cells) (hs : q.2.2.2.2.1.2 ≤ s0 + R.slots) (kk : ax_KK p l e R s m args below meth c Q D dA ro X A M.2.2.1 c0 s0 ad0 q) : W p l e R s m args below meth c Hm locs cells slots Q (F0 m pc ls (S.map (ax_cv ad ro))) := by
  obtain ⟨hx, hb, hml, hown, hts, hnm, hA, hSt, hfr, hlo⟩ := id C
  obtain ⟨hP, hD, hS, hl, had, hle, hX, hcc, hss, hpre⟩ := id V
  have hln : len = 1 := ax_nm_len hM.2.2 (fun _ _ _ _ h => by cases h) (fun _ _ h => by cases h)
  subst hln
  have hd : decode M.2.1 pc = .ok (.lastore, 1) := hM.1
  simp only [ax_s1] at h
  split at h
  · rename_i x i a r
    split at h
    · rename_i n f hr
      obtain ⟨hin, h⟩ := ax_bif h
      cases h
      obtain ⟨ha, he⟩ := ax_rowL_inv hr
      obtain ⟨t, ht⟩ := ax_ty_at (dA := dA) (ty := .long) (by simp)
      exact va_last hx hb hSt.1 hP hD hS a t (ax_cw_at (dA := dA) (ro := ro) had hle he) ht (ax_ix_in hin) hd (fun H1 locs1 p1 d1 s1 => kk H1 locs1 cells slots ls ad (ax_iv_put V he p1 d1 s1))
    · cases h
  · cases h
theorem ax_def_cv {ad : List Nat} {ro : Nat → Nat} (k : Nat) : (ax_def k).map (ax_cv ad ro) = ax_def k := by
  unfold ax_def
  split <;> rfl
theorem ax_w_new {i : Nat} (C : ax_CT D dA ro X A p R s m args meth c M d) (hM : ax_PE M (pc, .new i, len, r1, r2, r3)) (V : ax_IV D dA ro X A s M.2.2.1 c0 s0 ad0 L H Hm locs cells slots ls ad) (h : ax_s1 (pc, .new i, len, r1, r2, r3) L S H = some q) (hc : q.2.2.2.2.1.1 ≤ c0 + R.cells) (hs : q.2.2.2.2.1.2 ≤ s0 + R.slots) (kk : ax_KK p l e R s m args below meth c Q D dA ro X A M.2.2.1 c0 s0 ad0 q) : W p l e R s m args below meth c Hm locs cells slots Q (F0 m pc ls (S.map (ax_cv ad ro))) := by
  obtain ⟨hx, hb, hml, hown, hts, hnm, hA, hSt, hfr, hlo⟩ := id C
  obtain ⟨hP, hD, hS, hl, had, hle, hX, hcc, hss, hpre⟩ := id V
  have hln : len = 3 := ax_nm_len hM.2.2 (fun _ _ _ _ h => by cases h) (fun _ _ h => by cases h)
  subst hln
  have hd : decode M.2.1 pc = .ok (.new i, 3) := hM.1
  obtain ⟨h1, h⟩ := ax_bif h
  simp only [Bool.and_eq_true] at h1
  obtain ⟨h2, h3, h4, h5⟩ := h1
  have hn : H.1.length < 1000000 := Nat.le_of_ble_eq_true h3
  have h4 : L.all (fun q => ax_vv H.1.length q.2) = true ∧ S.all (ax_vv H.1.length) = true := by simpa [ax_vl] using h4
  cases h
  have h9 := hM.2.2
  simp only [ax_nm, Bool.and_eq_true] at h9
  have h10 := h9.2
  cases hq : vwCl[r1]? with
  | none =>
    rw [hq] at h10
    have z1 : r1 = 990 := Nat.eq_of_beq_eq_true h10
    have z2 : r1 < 10 := Nat.le_of_ble_eq_true h2
    omega
  | some qc =>
    rw [hq] at h10
    have hr2 : r2 = qc.2.2 := Nat.eq_of_beq_eq_true h10
    obtain ⟨hin, ty, hty, hnms, hdf⟩ := ax_cls_all r1 qc hq
    have hw : ∀ w ∈ [Cond.classLink M.1.cls i qc.1, Cond.instantiable qc.1 qc.2.2, Cond.initialized qc.1], w.before args s = true := fun w hw => hts _ (hM.2.1 _ (by show w ∈ (match vwCl[r1]? with | some (C, _, N) => [Cond.classLink M.1.cls i C, Cond.instantiable C N, Cond.initialized C] | none => []); rw [hq]; exact hw))
    subst hr2
    have hdm : (ax_def r1).map (ax_cv ad ro) = ax_def r1 := ax_def_cv r1
    refine va_new (C := qc.1) (T := qc.2.1) (N := qc.2.2) (ci := r1) (fs := ax_def r1) hx hb hts hin ty hty hown (hw _ List.mem_cons_self) (hw _ (List.mem_cons_of_mem _ List.mem_cons_self)) (hw _ (List.mem_cons_of_mem _ (List.mem_cons_of_mem _ List.mem_cons_self))) hSt.1 hP hD hS hA hq hdf ?_ ?_ hd (fun qa H1 p1 d1 s1 => ?_)
    · simp only [ax_new] at hc; omega
    · simp only [ax_new] at hs; omega
    have e1 : ax_ce dA (ad ++ [qa]) ro (.inr (r1, ax_def r1)) = .inr (r1, ax_def r1) := by show Sum.inr (r1, (ax_def r1).map (ax_cv (ad ++ [qa]) ro)) = _; rw [ax_def_cv]
    have hk := kk H1 locs (cells + 1) (slots + qc.2.2) ls (ad ++ [qa]) (ax_iv_new V hn h4.1 h5 (by rw [e1]; exact p1) (by rw [e1]; exact d1) s1)
    simp only [List.map_cons, ax_ref_new had hn, ax_map_ext [qa] (by rw [had]; exact h4.2)] at hk
    exact hk
theorem ax_w_newarray {t : ArrayType} (C : ax_CT D dA ro X A p R s m args meth c M d) (hM : ax_PE M (pc, .newarray t, len, r1, r2, r3)) (V : ax_IV D dA ro X A s M.2.2.1 c0 s0 ad0 L H Hm locs cells slots ls ad) (h : ax_s1 (pc, .newarray t, len, r1, r2, r3) L S H = some q) (hc : q.2.2.2.2.1.1 ≤ c0 + R.cells) (hs : q.2.2.2.2.1.2 ≤ s0 + R.slots) (kk : ax_KK p l e R s m args below meth c Q D dA ro X A M.2.2.1 c0 s0 ad0 q) : W p l e R s m args below meth c Hm locs cells slots Q (F0 m pc ls (S.map (ax_cv ad ro))) := by
  obtain ⟨hx, hb, hml, hown, hts, hnm, hA, hSt, hfr, hlo⟩ := id C
  obtain ⟨hP, hD, hS, hl, had, hle, hX, hcc, hss, hpre⟩ := id V
  have hln : len = 2 := ax_nm_len hM.2.2 (fun _ _ _ _ h => by cases h) (fun _ _ h => by cases h)
  subst hln
  have hd : decode M.2.1 pc = .ok (.newarray t, 2) := hM.1
  simp only [ax_s1] at h
  split at h
  · rename_i n r
    obtain ⟨h1, h⟩ := ax_bif h
    simp only [Bool.and_eq_true] at h1
    obtain ⟨h3, h4, h5⟩ := h1
    have hn : H.1.length < 1000000 := Nat.le_of_ble_eq_true h3
    have h4 : L.all (fun q => ax_vv H.1.length q.2) = true ∧ r.all (ax_vv H.1.length) = true := by simpa [ax_vl] using h4
    split at h
    · cases h
    · rename_i hneg
      split at h
      · rename_i hbig
        have hw : (Cond.arrayClass (newarray.typeOf t)).before args s = true := hts _ (hM.2.1 _ List.mem_cons_self)
        have key : ∀ (ty : FieldType) (a0 : vp_A), newarray.typeOf t = ty → (ty = .int ∨ ty = .byte ∨ ty = .char ∨ ty = .boolean ∨ ty = .long) → componentBytes ty ≤ 8 → (∀ cA : ClassId, vp_cell cA a0 = arrV cA n.toNatClampNeg (fun _ => defaultValue ty)) → q = (pc + 2, L, .ref H.1.length :: r, ax_new H (.inl (ty, a0)) n.toNatClampNeg) → W p l e R s m args below meth c Hm locs cells slots Q (F0 m pc ls (.int n :: r.map (ax_cv ad ro))) := by
          intro ty a0 hty hkd hcb ha hq
          subst hq
          refine va_newa hx hb hw hty hSt.1 hP hD hS hA (a0 := a0) ha hneg rfl ?_ ?_ ?_ hd (fun qa cA H1 k1 p1 d1 s1 => ?_)
          · have := Nat.mul_le_mul_left n.toNatClampNeg hcb; omega
          · simp only [ax_new] at hc; omega
          · simp only [ax_new] at hs; omega
          have hcA : cA = dA ty := by
            obtain ⟨t0, ht0⟩ := ax_ty_at (dA := dA) hkd
            have q1 := (hSt.1.2 t0 _ ht0).2
            have q2 := (k1.2 (ax_ty dA).length (cA, ty) (by rw [List.getElem?_concat_length])).2
            rcases hkd with rfl | rfl | rfl | rfl | rfl <;> exact Option.some.inj (q2.symm.trans q1)
          subst hcA
          have hk := kk H1 locs (cells + 1) (slots + n.toNatClampNeg) ls (ad ++ [qa]) (ax_iv_new V hn h4.1 h5 p1 d1 s1)
          simp only [List.map_cons, ax_ref_new had hn, ax_map_ext [qa] (by rw [had]; exact h4.2)] at hk
          exact hk
        split at h
        · cases h
          exact key .int _ rfl (by simp) (by decide) (fun cA => by rfl) rfl
        · cases h
          exact key .char _ rfl (by simp) (by decide) (fun cA => by rfl) rfl
        · cases h
          exact key .byte _ rfl (by simp) (by decide) (fun cA => by rfl) rfl
        · cases h
          exact key .boolean _ rfl (by simp) (by decide) (fun cA => by rfl) rfl
        · cases h
          exact key .long _ rfl (by simp) (by decide) (fun cA => by rfl) rfl
        · cases h
      · cases h
  · cases h
theorem ax_w_arraylength  (C : ax_CT D dA ro X A p R s m args meth c M d) (hM : ax_PE M (pc, .arraylength, len, r1, r2, r3)) (V : ax_IV D dA ro X A s M.2.2.1 c0 s0 ad0 L H Hm locs cells slots ls ad) (h : ax_s1 (pc, .arraylength, len, r1, r2, r3) L S H = some q) (hc : q.2.2.2.2.1.1 ≤ c0 + R.cells) (hs : q.2.2.2.2.1.2 ≤ s0 + R.slots) (kk : ax_KK p l e R s m args below meth c Q D dA ro X A M.2.2.1 c0 s0 ad0 q) : W p l e R s m args below meth c Hm locs cells slots Q (F0 m pc ls (S.map (ax_cv ad ro))) := by
  obtain ⟨hx, hb, hml, hown, hts, hnm, hA, hSt, hfr, hlo⟩ := id C
  obtain ⟨hP, hD, hS, hl, had, hle, hX, hcc, hss, hpre⟩ := id V
  have hln : len = 1 := ax_nm_len hM.2.2 (fun _ _ _ _ h => by cases h) (fun _ _ h => by cases h)
  subst hln
  have hd : decode M.2.1 pc = .ok (.arraylength, 1) := hM.1
  simp only [ax_s1] at h
  split at h
  · rename_i a r
    split at h
    · rename_i ty n f hr
      obtain ⟨hok, h⟩ := ax_bif h
      cases h
      have hty : ty = .int ∨ ty = .byte ∨ ty = .char ∨ ty = .boolean ∨ ty = .long := by cases ty <;> first | (simp; done) | cases hok
      have hk := kk Hm locs cells slots ls ad V
      rcases ax_row_inv hr with ⟨ha, he⟩ | ⟨rfl, rfl, hXX⟩ | ⟨ha, hrm⟩
      · obtain ⟨t, ht⟩ := ax_ty_at (dA := dA) hty
        exact va_alen hx hb hSt.1 hP a t (ax_cw_at (dA := dA) (ro := ro) had hle he) ht rfl hd hk
      · rw [hX] at hXX
        cases X
        cases hXX
        exact va_tlen hx hb hSt.2.2.1 hS rfl hd hk
      · have e1 : ax_cv ad ro (.ref a) = .ref (ro (a - 1000000)) := by show Value.ref (ax_ca ad ro a) = _; rw [ax_ca_ro (by omega)]
        simp only [List.map_cons, e1]
        exact va_tlen hx hb (ax_st_rom hSt ha hrm).1 hS rfl hd hk
    · split at h
      · rename_i n f hr
        cases h
        obtain ⟨ha, he⟩ := ax_rowL_inv hr
        obtain ⟨t, ht⟩ := ax_ty_at (dA := dA) (ty := .long) (by simp)
        exact va_alen hx hb hSt.1 hP a t (ax_cw_at (dA := dA) (ro := ro) had hle he) ht rfl hd (kk Hm locs cells slots ls ad V)
      · cases h
  · cases h
theorem ax_w_math {i : Nat} (C : ax_CT D dA ro X A p R s m args meth c M d) (hM : ax_PE M (pc, .invokestatic i, len, r1, r2, r3)) (V : ax_IV D dA ro X A s M.2.2.1 c0 s0 ad0 L H Hm locs cells slots ls ad) (h : ax_s1 (pc, .invokestatic i, len, r1, r2, r3) L S H = some q) (hc : q.2.2.2.2.1.1 ≤ c0 + R.cells) (hs : q.2.2.2.2.1.2 ≤ s0 + R.slots) (kk : ax_KK p l e R s m args below meth c Q D dA ro X A M.2.2.1 c0 s0 ad0 q) : W p l e R s m args below meth c Hm locs cells slots Q (F0 m pc ls (S.map (ax_cv ad ro))) := by
  obtain ⟨hx, hb, hml, hown, hts, hnm, hA, hSt, hfr, hlo⟩ := id C
  obtain ⟨hP, hD, hS, hl, had, hle, hX, hcc, hss, hpre⟩ := id V
  have hln : len = 3 := ax_nm_len hM.2.2 (fun _ _ _ _ h => by cases h) (fun _ _ h => by cases h)
  subst hln
  have hd : decode M.2.1 pc = .ok (.invokestatic i, 3) := hM.1
  have hwds : ∀ M2, ax_mt[r1]? = some M2 → Nat.beq r1 998 = false → ∀ w ∈ [Cond.methodLink M.1.cls i M2.1, Cond.static M2.1, Cond.initialized M2.1.cls], w.before args s = true := fun M2 h1 h2 w hw9 => hts _ (hM.2.1 _ (by
    show w ∈ (bif Nat.beq r1 998 then _ else match ax_mt[r1]? with
      | some M => [Cond.methodLink _ i M.1, Cond.static M.1, Cond.initialized M.1.cls]
      | none => [])
    rw [h2, h1]; exact hw9))
  simp only [ax_s1] at h
  cases hb0 : Nat.beq r1 1 with
  | true =>
    rw [hb0] at h
    simp only [cond_true] at h
    have e1 : r1 = 1 := Nat.eq_of_beq_eq_true hb0
    split at h
    · obtain ⟨hw, h⟩ := ax_bif h
      cases h
      have hcc9 : cells ≤ R.cells := by have : H.2.1.1 ≤ c0 + R.cells := hc; omega
      have hss9 : slots ≤ R.slots := by have : H.2.1.2 ≤ s0 + R.slots := hs; omega
      have h1 := Nat.le_of_ble_eq_true hw
      rename_i r
      have h2 : ((r.map (ax_cv ad ro)).map fun v => v.category) = r.map (fun v => v.category) := by rw [List.map_map]; exact List.map_congr_left fun v _ => ax_cv_cat ad ro v
      have hz := hwds _ (by rw [e1]; exact ax_math_abs) (by rw [e1]; rfl)
      exact va_mabs hx hb (hml.trans hl.1.symm) hown (hz _ List.mem_cons_self) (hz _ (List.mem_cons_of_mem _ List.mem_cons_self)) (hz _ (List.mem_cons_of_mem _ (List.mem_cons_of_mem _ List.mem_cons_self))) (hts _ ax_mc_abs) (by omega) (by rw [h2]; unfold ax_wid at h1; omega) hcc9 hss9 hd (kk Hm locs cells slots ls ad V)
    · cases h
  | false =>
  rw [hb0] at h
  simp only [cond_false] at h
  cases hb1 : Nat.beq r1 2 with
  | true =>
    rw [hb1] at h
    simp only [cond_true] at h
    have e1 : r1 = 2 := Nat.eq_of_beq_eq_true hb1
    split at h
    · obtain ⟨hw, h⟩ := ax_bif h
      cases h
      have hcc9 : cells ≤ R.cells := by have : H.2.1.1 ≤ c0 + R.cells := hc; omega
      have hss9 : slots ≤ R.slots := by have : H.2.1.2 ≤ s0 + R.slots := hs; omega
      have h1 := Nat.le_of_ble_eq_true hw
      rename_i r
      have h2 : ((r.map (ax_cv ad ro)).map fun v => v.category) = r.map (fun v => v.category) := by rw [List.map_map]; exact List.map_congr_left fun v _ => ax_cv_cat ad ro v
      have hz := hwds _ (by rw [e1]; exact ax_math_max) (by rw [e1]; rfl)
      exact va_mmax hx hb (hml.trans hl.1.symm) hown (hz _ List.mem_cons_self) (hz _ (List.mem_cons_of_mem _ List.mem_cons_self)) (hz _ (List.mem_cons_of_mem _ (List.mem_cons_of_mem _ List.mem_cons_self))) (hts _ ax_mc_max) (by omega) (by rw [h2]; unfold ax_wid at h1; omega) hcc9 hss9 hd (kk Hm locs cells slots ls ad V)
    · cases h
  | false =>
  rw [hb1] at h
  simp only [cond_false] at h
  cases hb2 : Nat.beq r1 3 with
  | true =>
    rw [hb2] at h
    simp only [cond_true] at h
    have e1 : r1 = 3 := Nat.eq_of_beq_eq_true hb2
    split at h
    · obtain ⟨hw, h⟩ := ax_bif h
      cases h
      have hcc9 : cells ≤ R.cells := by have : H.2.1.1 ≤ c0 + R.cells := hc; omega
      have hss9 : slots ≤ R.slots := by have : H.2.1.2 ≤ s0 + R.slots := hs; omega
      have h1 := Nat.le_of_ble_eq_true hw
      rename_i r
      have h2 : ((r.map (ax_cv ad ro)).map fun v => v.category) = r.map (fun v => v.category) := by rw [List.map_map]; exact List.map_congr_left fun v _ => ax_cv_cat ad ro v
      have hz := hwds _ (by rw [e1]; exact ax_math_min) (by rw [e1]; rfl)
      exact va_mmin hx hb (hml.trans hl.1.symm) hown (hz _ List.mem_cons_self) (hz _ (List.mem_cons_of_mem _ List.mem_cons_self)) (hz _ (List.mem_cons_of_mem _ (List.mem_cons_of_mem _ List.mem_cons_self))) (hts _ ax_mc_min) (by omega) (by rw [h2]; unfold ax_wid at h1; omega) hcc9 hss9 hd (kk Hm locs cells slots ls ad V)
    · cases h
  | false =>
  rw [hb2] at h
  simp only [cond_false] at h
  cases h
theorem ax_s1_W {ins : Instr} (C : ax_CT D dA ro X A p R s m args meth c M d) (hM : ax_PE M (pc, ins, len, r1, r2, r3)) (V : ax_IV D dA ro X A s M.2.2.1 c0 s0 ad0 L H Hm locs cells slots ls ad) (h : ax_s1 (pc, ins, len, r1, r2, r3) L S H = some q) (hc : q.2.2.2.2.1.1 ≤ c0 + R.cells) (hs : q.2.2.2.2.1.2 ≤ s0 + R.slots) (kk : ax_KK p l e R s m args below meth c Q D dA ro X A M.2.2.1 c0 s0 ad0 q) : W p l e R s m args below meth c Hm locs cells slots Q (F0 m pc ls (S.map (ax_cv ad ro))) := by
  cases ins with
  | iconst _ => exact ax_w_iconst C hM V h hc hs kk
  | bipush _ => exact ax_w_bipush C hM V h hc hs kk
  | sipush _ => exact ax_w_sipush C hM V h hc hs kk
  | lconst _ => exact ax_w_lconst C hM V h hc hs kk
  | ldc _ => exact ax_w_ldc C hM V h hc hs kk
  | ldc_w _ => exact ax_w_ldc_w C hM V h hc hs kk
  | ldc2_w _ => exact ax_w_ldc2_w C hM V h hc hs kk
  | iload_n _ => exact ax_w_iload_n C hM V h hc hs kk
  | iload _ => exact ax_w_iload C hM V h hc hs kk
  | lload_n _ => exact ax_w_lload_n C hM V h hc hs kk
  | lload _ => exact ax_w_lload C hM V h hc hs kk
  | aload_n _ => exact ax_w_aload_n C hM V h hc hs kk
  | aload _ => exact ax_w_aload C hM V h hc hs kk
  | istore_n _ => exact ax_w_istore_n C hM V h hc hs kk
  | istore _ => exact ax_w_istore C hM V h hc hs kk
  | lstore_n _ => exact ax_w_lstore_n C hM V h hc hs kk
  | lstore _ => exact ax_w_lstore C hM V h hc hs kk
  | astore_n _ => exact ax_w_astore_n C hM V h hc hs kk
  | astore _ => exact ax_w_astore C hM V h hc hs kk
  | iinc _ _ => exact ax_w_iinc C hM V h hc hs kk
  | iadd => exact ax_w_iadd C hM V h hc hs kk
  | isub => exact ax_w_isub C hM V h hc hs kk
  | imul => exact ax_w_imul C hM V h hc hs kk
  | iand => exact ax_w_iand C hM V h hc hs kk
  | ior => exact ax_w_ior C hM V h hc hs kk
  | ixor => exact ax_w_ixor C hM V h hc hs kk
  | ishl => exact ax_w_ishl C hM V h hc hs kk
  | ishr => exact ax_w_ishr C hM V h hc hs kk
  | iushr => exact ax_w_iushr C hM V h hc hs kk
  | idiv => exact ax_w_idiv C hM V h hc hs kk
  | irem => exact ax_w_irem C hM V h hc hs kk
  | ldiv => exact ax_w_ldiv C hM V h hc hs kk
  | lrem => exact ax_w_lrem C hM V h hc hs kk
  | ineg => exact ax_w_ineg C hM V h hc hs kk
  | i2b => exact ax_w_i2b C hM V h hc hs kk
  | i2s => exact ax_w_i2s C hM V h hc hs kk
  | i2c => exact ax_w_i2c C hM V h hc hs kk
  | i2l => exact ax_w_i2l C hM V h hc hs kk
  | ladd => exact ax_w_ladd C hM V h hc hs kk
  | lsub => exact ax_w_lsub C hM V h hc hs kk
  | lmul => exact ax_w_lmul C hM V h hc hs kk
  | lcmp => exact ax_w_lcmp C hM V h hc hs kk
  | dup => exact ax_w_dup C hM V h hc hs kk
  | pop => exact ax_w_pop C hM V h hc hs kk
  | dup_x1 => exact ax_w_dup_x1 C hM V h hc hs kk
  | dup2 => exact ax_w_dup2 C hM V h hc hs kk
  | ifCond cc o => cases cc with
    | eq => exact ax_w_ifCond_eq C hM V h hc hs kk
    | ne => exact ax_w_ifCond_ne C hM V h hc hs kk
    | lt => exact ax_w_ifCond_lt C hM V h hc hs kk
    | ge => exact ax_w_ifCond_ge C hM V h hc hs kk
    | gt => exact ax_w_ifCond_gt C hM V h hc hs kk
    | le => exact ax_w_ifCond_le C hM V h hc hs kk
  | if_icmp cc o => cases cc with
    | eq => exact ax_w_if_icmp_eq C hM V h hc hs kk
    | ne => exact ax_w_if_icmp_ne C hM V h hc hs kk
    | lt => exact ax_w_if_icmp_lt C hM V h hc hs kk
    | ge => exact ax_w_if_icmp_ge C hM V h hc hs kk
    | gt => exact ax_w_if_icmp_gt C hM V h hc hs kk
    | le => exact ax_w_if_icmp_le C hM V h hc hs kk
  | goto _ => exact ax_w_goto C hM V h hc hs kk
  | tableswitch _ _ _ _ => exact ax_w_tableswitch C hM V h hc hs kk
  | lookupswitch _ _ => exact ax_w_lookupswitch C hM V h hc hs kk
  | getfield _ => exact ax_w_getfield C hM V h hc hs kk
  | putfield _ => exact ax_w_putfield C hM V h hc hs kk
  | getstatic _ => exact ax_w_getstatic C hM V h hc hs kk
  | iaload => exact ax_w_iaload C hM V h hc hs kk
  | baload => exact ax_w_baload C hM V h hc hs kk
  | caload => exact ax_w_caload C hM V h hc hs kk
  | laload => exact ax_w_laload C hM V h hc hs kk
  | iastore => exact ax_w_iastore C hM V h hc hs kk
  | bastore => exact ax_w_bastore C hM V h hc hs kk
  | castore => exact ax_w_castore C hM V h hc hs kk
  | lastore => exact ax_w_lastore C hM V h hc hs kk
  | new _ => exact ax_w_new C hM V h hc hs kk
  | newarray _ => exact ax_w_newarray C hM V h hc hs kk
  | arraylength => exact ax_w_arraylength C hM V h hc hs kk
  | invokestatic _ => exact ax_w_math C hM V h hc hs kk
  | _ => exact absurd h (by intro z; cases z)
end AXT
