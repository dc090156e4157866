/-! The simple instructions, a case each -/
section AXT
variable {p : Program} {l : Launch} {e : Env} {R : Room} {s : State} {m : MethodId} {args : Array Value} {below : List Frame} {meth : Method} {c : Code} {Q : State → Prop}
variable {ad0 : List Nat} {D : va_G} {dA : FieldType → ClassId} {ro : Nat → Nat} {X : Nat × (Nat → Int32)} {A : Nat → Prop} {M : ax_M} {d c0 s0 : Nat}
variable {pc len r1 r2 r3 : Nat} {L : ax_L} {S : List Value} {H : ax_H} {Hm : Heap} {locs : List Loc} {cells slots : Nat} {ls : Array Slot} {ad : List Nat} {q : ax_S}
theorem ax_w_iconst {n : Int} (C : ax_CT D dA ro X A p R s m args meth c M d) (hM : ax_PE M (pc, .iconst n, len, r1, r2, r3)) (V : ax_IV D dA ro X A s M.2.2.1 c0 s0 ad0 L H Hm locs cells slots ls ad) (h : ax_s1 (pc, .iconst n, len, r1, r2, r3) L S H = some q) (hc : q.2.2.2.2.1.1 ≤ c0 + R.cells) (hs : q.2.2.2.2.1.2 ≤ s0 + R.slots) (kk : ax_KK p l e R s m args below meth c Q D dA ro X A M.2.2.1 c0 s0 ad0 q) : W p l e R s m args below meth c Hm locs cells slots Q (F0 m pc ls (S.map (ax_cv ad ro))) := by
  obtain ⟨hx, hb, hml, hown, hts, hnm, hA, hSt, hfr, hlo⟩ := id C
  obtain ⟨hP, hD, hS, hl, had, hle, hX, hcc, hss, hpre⟩ := id V
  have hln : len = 1 := ax_nm_len hM.2.2 (fun _ _ _ _ h => by cases h) (fun _ _ h => by cases h)
  subst hln
  have hd : decode M.2.1 pc = .ok (.iconst n, 1) := hM.1
  cases h
  exact lv_iconst hx hb hd rfl (kk Hm locs cells slots ls ad V)
theorem ax_w_bipush {n : Int} (C : ax_CT D dA ro X A p R s m args meth c M d) (hM : ax_PE M (pc, .bipush n, len, r1, r2, r3)) (V : ax_IV D dA ro X A s M.2.2.1 c0 s0 ad0 L H Hm locs cells slots ls ad) (h : ax_s1 (pc, .bipush n, len, r1, r2, r3) L S H = some q) (hc : q.2.2.2.2.1.1 ≤ c0 + R.cells) (hs : q.2.2.2.2.1.2 ≤ s0 + R.slots) (kk : ax_KK p l e R s m args below meth c Q D dA ro X A M.2.2.1 c0 s0 ad0 q) : W p l e R s m args below meth c Hm locs cells slots Q (F0 m pc ls (S.map (ax_cv ad ro))) := by
  obtain ⟨hx, hb, hml, hown, hts, hnm, hA, hSt, hfr, hlo⟩ := id C
  obtain ⟨hP, hD, hS, hl, had, hle, hX, hcc, hss, hpre⟩ := id V
  have hln : len = 2 := ax_nm_len hM.2.2 (fun _ _ _ _ h => by cases h) (fun _ _ h => by cases h)
  subst hln
  have hd : decode M.2.1 pc = .ok (.bipush n, 2) := hM.1
  cases h
  exact lv_bipush hx hb hd rfl (kk Hm locs cells slots ls ad V)
theorem ax_w_sipush {n : Int} (C : ax_CT D dA ro X A p R s m args meth c M d) (hM : ax_PE M (pc, .sipush n, len, r1, r2, r3)) (V : ax_IV D dA ro X A s M.2.2.1 c0 s0 ad0 L H Hm locs cells slots ls ad) (h : ax_s1 (pc, .sipush n, len, r1, r2, r3) L S H = some q) (hc : q.2.2.2.2.1.1 ≤ c0 + R.cells) (hs : q.2.2.2.2.1.2 ≤ s0 + R.slots) (kk : ax_KK p l e R s m args below meth c Q D dA ro X A M.2.2.1 c0 s0 ad0 q) : W p l e R s m args below meth c Hm locs cells slots Q (F0 m pc ls (S.map (ax_cv ad ro))) := by
  obtain ⟨hx, hb, hml, hown, hts, hnm, hA, hSt, hfr, hlo⟩ := id C
  obtain ⟨hP, hD, hS, hl, had, hle, hX, hcc, hss, hpre⟩ := id V
  have hln : len = 3 := ax_nm_len hM.2.2 (fun _ _ _ _ h => by cases h) (fun _ _ h => by cases h)
  subst hln
  have hd : decode M.2.1 pc = .ok (.sipush n, 3) := hM.1
  cases h
  exact lv_sipush hx hb hd rfl (kk Hm locs cells slots ls ad V)
theorem ax_w_lconst {n : Fin 2} (C : ax_CT D dA ro X A p R s m args meth c M d) (hM : ax_PE M (pc, .lconst n, len, r1, r2, r3)) (V : ax_IV D dA ro X A s M.2.2.1 c0 s0 ad0 L H Hm locs cells slots ls ad) (h : ax_s1 (pc, .lconst n, len, r1, r2, r3) L S H = some q) (hc : q.2.2.2.2.1.1 ≤ c0 + R.cells) (hs : q.2.2.2.2.1.2 ≤ s0 + R.slots) (kk : ax_KK p l e R s m args below meth c Q D dA ro X A M.2.2.1 c0 s0 ad0 q) : W p l e R s m args below meth c Hm locs cells slots Q (F0 m pc ls (S.map (ax_cv ad ro))) := by
  obtain ⟨hx, hb, hml, hown, hts, hnm, hA, hSt, hfr, hlo⟩ := id C
  obtain ⟨hP, hD, hS, hl, had, hle, hX, hcc, hss, hpre⟩ := id V
  have hln : len = 1 := ax_nm_len hM.2.2 (fun _ _ _ _ h => by cases h) (fun _ _ h => by cases h)
  subst hln
  have hd : decode M.2.1 pc = .ok (.lconst n, 1) := hM.1
  cases h
  exact lv_lconst hx hb hd rfl (kk Hm locs cells slots ls ad V)
theorem ax_w_ldc {i : Nat} (C : ax_CT D dA ro X A p R s m args meth c M d) (hM : ax_PE M (pc, .ldc i, len, r1, r2, r3)) (V : ax_IV D dA ro X A s M.2.2.1 c0 s0 ad0 L H Hm locs cells slots ls ad) (h : ax_s1 (pc, .ldc i, len, r1, r2, r3) L S H = some q) (hc : q.2.2.2.2.1.1 ≤ c0 + R.cells) (hs : q.2.2.2.2.1.2 ≤ s0 + R.slots) (kk : ax_KK p l e R s m args below meth c Q D dA ro X A M.2.2.1 c0 s0 ad0 q) : W p l e R s m args below meth c Hm locs cells slots Q (F0 m pc ls (S.map (ax_cv ad ro))) := by
  obtain ⟨hx, hb, hml, hown, hts, hnm, hA, hSt, hfr, hlo⟩ := id C
  obtain ⟨hP, hD, hS, hl, had, hle, hX, hcc, hss, hpre⟩ := id V
  have hln : len = 2 := ax_nm_len hM.2.2 (fun _ _ _ _ h => by cases h) (fun _ _ h => by cases h)
  subst hln
  have hd : decode M.2.1 pc = .ok (.ldc i, 2) := hM.1
  obtain ⟨h1, h⟩ := ax_bif h
  cases h
  have hw : (Cond.constant M.1.cls i (Int32.ofNat r1)).before args s = true := hts _ (hM.2.1 _ (by show _ ∈ (bif Nat.beq r2 0 then [Cond.constant M.1.cls i (Int32.ofNat r1)] else []); rw [h1]; exact List.mem_cons_self))
  exact lv_ldc hx hb hown hw hd (kk Hm locs cells slots ls ad V)
theorem ax_w_ldc_w {i : Nat} (C : ax_CT D dA ro X A p R s m args meth c M d) (hM : ax_PE M (pc, .ldc_w i, len, r1, r2, r3)) (V : ax_IV D dA ro X A s M.2.2.1 c0 s0 ad0 L H Hm locs cells slots ls ad) (h : ax_s1 (pc, .ldc_w i, len, r1, r2, r3) L S H = some q) (hc : q.2.2.2.2.1.1 ≤ c0 + R.cells) (hs : q.2.2.2.2.1.2 ≤ s0 + R.slots) (kk : ax_KK p l e R s m args below meth c Q D dA ro X A M.2.2.1 c0 s0 ad0 q) : W p l e R s m args below meth c Hm locs cells slots Q (F0 m pc ls (S.map (ax_cv ad ro))) := by
  obtain ⟨hx, hb, hml, hown, hts, hnm, hA, hSt, hfr, hlo⟩ := id C
  obtain ⟨hP, hD, hS, hl, had, hle, hX, hcc, hss, hpre⟩ := id V
  have hln : len = 3 := ax_nm_len hM.2.2 (fun _ _ _ _ h => by cases h) (fun _ _ h => by cases h)
  subst hln
  have hd : decode M.2.1 pc = .ok (.ldc_w i, 3) := hM.1
  obtain ⟨h1, h⟩ := ax_bif h
  cases h
  have hw : (Cond.constant M.1.cls i (Int32.ofNat r1)).before args s = true := hts _ (hM.2.1 _ (by show _ ∈ (bif Nat.beq r2 0 then [Cond.constant M.1.cls i (Int32.ofNat r1)] else []); rw [h1]; exact List.mem_cons_self))
  exact lv_ldcw hx hb hown hw hd (kk Hm locs cells slots ls ad V)
theorem ax_w_ldc2_w {i : Nat} (C : ax_CT D dA ro X A p R s m args meth c M d) (hM : ax_PE M (pc, .ldc2_w i, len, r1, r2, r3)) (V : ax_IV D dA ro X A s M.2.2.1 c0 s0 ad0 L H Hm locs cells slots ls ad) (h : ax_s1 (pc, .ldc2_w i, len, r1, r2, r3) L S H = some q) (hc : q.2.2.2.2.1.1 ≤ c0 + R.cells) (hs : q.2.2.2.2.1.2 ≤ s0 + R.slots) (kk : ax_KK p l e R s m args below meth c Q D dA ro X A M.2.2.1 c0 s0 ad0 q) : W p l e R s m args below meth c Hm locs cells slots Q (F0 m pc ls (S.map (ax_cv ad ro))) := by
  obtain ⟨hx, hb, hml, hown, hts, hnm, hA, hSt, hfr, hlo⟩ := id C
  obtain ⟨hP, hD, hS, hl, had, hle, hX, hcc, hss, hpre⟩ := id V
  have hln : len = 3 := ax_nm_len hM.2.2 (fun _ _ _ _ h => by cases h) (fun _ _ h => by cases h)
  subst hln
  have hd : decode M.2.1 pc = .ok (.ldc2_w i, 3) := hM.1
  cases h
  exact lv_ldc2 hx hb hown (hts _ (hM.2.1 _ List.mem_cons_self)) hd (kk Hm locs cells slots ls ad V)
theorem ax_w_iload_n {k : Fin 4} (C : ax_CT D dA ro X A p R s m args meth c M d) (hM : ax_PE M (pc, .iload_n k, len, r1, r2, r3)) (V : ax_IV D dA ro X A s M.2.2.1 c0 s0 ad0 L H Hm locs cells slots ls ad) (h : ax_s1 (pc, .iload_n k, len, r1, r2, r3) L S H = some q) (hc : q.2.2.2.2.1.1 ≤ c0 + R.cells) (hs : q.2.2.2.2.1.2 ≤ s0 + R.slots) (kk : ax_KK p l e R s m args below meth c Q D dA ro X A M.2.2.1 c0 s0 ad0 q) : W p l e R s m args below meth c Hm locs cells slots Q (F0 m pc ls (S.map (ax_cv ad ro))) := by
  obtain ⟨hx, hb, hml, hown, hts, hnm, hA, hSt, hfr, hlo⟩ := id C
  obtain ⟨hP, hD, hS, hl, had, hle, hX, hcc, hss, hpre⟩ := id V
  have hln : len = 1 := ax_nm_len hM.2.2 (fun _ _ _ _ h => by cases h) (fun _ _ h => by cases h)
  subst hln
  have hd : decode M.2.1 pc = .ok (.iload_n k, 1) := hM.1
  rcases ax_ld_inv h with ⟨x, hg, hk, rfl⟩ | ⟨x, hg, hk, rfl⟩ | ⟨x, hg, hk, rfl⟩
  · exact lv_iload_n hx hb hd rfl (ax_cl_at hl hg) (kk Hm locs cells slots ls ad V)
  · cases hk
  · cases hk
theorem ax_w_iload {k : Nat} (C : ax_CT D dA ro X A p R s m args meth c M d) (hM : ax_PE M (pc, .iload k, len, r1, r2, r3)) (V : ax_IV D dA ro X A s M.2.2.1 c0 s0 ad0 L H Hm locs cells slots ls ad) (h : ax_s1 (pc, .iload k, len, r1, r2, r3) L S H = some q) (hc : q.2.2.2.2.1.1 ≤ c0 + R.cells) (hs : q.2.2.2.2.1.2 ≤ s0 + R.slots) (kk : ax_KK p l e R s m args below meth c Q D dA ro X A M.2.2.1 c0 s0 ad0 q) : W p l e R s m args below meth c Hm locs cells slots Q (F0 m pc ls (S.map (ax_cv ad ro))) := by
  obtain ⟨hx, hb, hml, hown, hts, hnm, hA, hSt, hfr, hlo⟩ := id C
  obtain ⟨hP, hD, hS, hl, had, hle, hX, hcc, hss, hpre⟩ := id V
  have hln : len = 2 := ax_nm_len hM.2.2 (fun _ _ _ _ h => by cases h) (fun _ _ h => by cases h)
  subst hln
  have hd : decode M.2.1 pc = .ok (.iload k, 2) := hM.1
  rcases ax_ld_inv h with ⟨x, hg, hk, rfl⟩ | ⟨x, hg, hk, rfl⟩ | ⟨x, hg, hk, rfl⟩
  · exact lv_iload hx hb hd (ax_cl_at hl hg) (kk Hm locs cells slots ls ad V)
  · cases hk
  · cases hk
theorem ax_w_lload_n {k : Fin 4} (C : ax_CT D dA ro X A p R s m args meth c M d) (hM : ax_PE M (pc, .lload_n k, len, r1, r2, r3)) (V : ax_IV D dA ro X A s M.2.2.1 c0 s0 ad0 L H Hm locs cells slots ls ad) (h : ax_s1 (pc, .lload_n k, len, r1, r2, r3) L S H = some q) (hc : q.2.2.2.2.1.1 ≤ c0 + R.cells) (hs : q.2.2.2.2.1.2 ≤ s0 + R.slots) (kk : ax_KK p l e R s m args below meth c Q D dA ro X A M.2.2.1 c0 s0 ad0 q) : W p l e R s m args below meth c Hm locs cells slots Q (F0 m pc ls (S.map (ax_cv ad ro))) := by
  obtain ⟨hx, hb, hml, hown, hts, hnm, hA, hSt, hfr, hlo⟩ := id C
  obtain ⟨hP, hD, hS, hl, had, hle, hX, hcc, hss, hpre⟩ := id V
  have hln : len = 1 := ax_nm_len hM.2.2 (fun _ _ _ _ h => by cases h) (fun _ _ h => by cases h)
  subst hln
  have hd : decode M.2.1 pc = .ok (.lload_n k, 1) := hM.1
  rcases ax_ld_inv h with ⟨x, hg, hk, rfl⟩ | ⟨x, hg, hk, rfl⟩ | ⟨x, hg, hk, rfl⟩
  · cases hk
  · exact lv_lload_n hx hb hd rfl (ax_cl_at hl hg) (kk Hm locs cells slots ls ad V)
  · cases hk
theorem ax_w_lload {k : Nat} (C : ax_CT D dA ro X A p R s m args meth c M d) (hM : ax_PE M (pc, .lload k, len, r1, r2, r3)) (V : ax_IV D dA ro X A s M.2.2.1 c0 s0 ad0 L H Hm locs cells slots ls ad) (h : ax_s1 (pc, .lload k, len, r1, r2, r3) L S H = some q) (hc : q.2.2.2.2.1.1 ≤ c0 + R.cells) (hs : q.2.2.2.2.1.2 ≤ s0 + R.slots) (kk : ax_KK p l e R s m args below meth c Q D dA ro X A M.2.2.1 c0 s0 ad0 q) : W p l e R s m args below meth c Hm locs cells slots Q (F0 m pc ls (S.map (ax_cv ad ro))) := by
  obtain ⟨hx, hb, hml, hown, hts, hnm, hA, hSt, hfr, hlo⟩ := id C
  obtain ⟨hP, hD, hS, hl, had, hle, hX, hcc, hss, hpre⟩ := id V
  have hln : len = 2 := ax_nm_len hM.2.2 (fun _ _ _ _ h => by cases h) (fun _ _ h => by cases h)
  subst hln
  have hd : decode M.2.1 pc = .ok (.lload k, 2) := hM.1
  rcases ax_ld_inv h with ⟨x, hg, hk, rfl⟩ | ⟨x, hg, hk, rfl⟩ | ⟨x, hg, hk, rfl⟩
  · cases hk
  · exact lv_lload hx hb hd (ax_cl_at hl hg) (kk Hm locs cells slots ls ad V)
  · cases hk
theorem ax_w_aload_n {k : Fin 4} (C : ax_CT D dA ro X A p R s m args meth c M d) (hM : ax_PE M (pc, .aload_n k, len, r1, r2, r3)) (V : ax_IV D dA ro X A s M.2.2.1 c0 s0 ad0 L H Hm locs cells slots ls ad) (h : ax_s1 (pc, .aload_n k, len, r1, r2, r3) L S H = some q) (hc : q.2.2.2.2.1.1 ≤ c0 + R.cells) (hs : q.2.2.2.2.1.2 ≤ s0 + R.slots) (kk : ax_KK p l e R s m args below meth c Q D dA ro X A M.2.2.1 c0 s0 ad0 q) : W p l e R s m args below meth c Hm locs cells slots Q (F0 m pc ls (S.map (ax_cv ad ro))) := by
  obtain ⟨hx, hb, hml, hown, hts, hnm, hA, hSt, hfr, hlo⟩ := id C
  obtain ⟨hP, hD, hS, hl, had, hle, hX, hcc, hss, hpre⟩ := id V
  have hln : len = 1 := ax_nm_len hM.2.2 (fun _ _ _ _ h => by cases h) (fun _ _ h => by cases h)
  subst hln
  have hd : decode M.2.1 pc = .ok (.aload_n k, 1) := hM.1
  rcases ax_ld_inv h with ⟨x, hg, hk, rfl⟩ | ⟨x, hg, hk, rfl⟩ | ⟨x, hg, hk, rfl⟩
  · cases hk
  · cases hk
  · exact lv_aload_n hx hb hd rfl (ax_cl_at hl hg) (kk Hm locs cells slots ls ad V)
theorem ax_w_aload {k : Nat} (C : ax_CT D dA ro X A p R s m args meth c M d) (hM : ax_PE M (pc, .aload k, len, r1, r2, r3)) (V : ax_IV D dA ro X A s M.2.2.1 c0 s0 ad0 L H Hm locs cells slots ls ad) (h : ax_s1 (pc, .aload k, len, r1, r2, r3) L S H = some q) (hc : q.2.2.2.2.1.1 ≤ c0 + R.cells) (hs : q.2.2.2.2.1.2 ≤ s0 + R.slots) (kk : ax_KK p l e R s m args below meth c Q D dA ro X A M.2.2.1 c0 s0 ad0 q) : W p l e R s m args below meth c Hm locs cells slots Q (F0 m pc ls (S.map (ax_cv ad ro))) := by
  obtain ⟨hx, hb, hml, hown, hts, hnm, hA, hSt, hfr, hlo⟩ := id C
  obtain ⟨hP, hD, hS, hl, had, hle, hX, hcc, hss, hpre⟩ := id V
  have hln : len = 2 := ax_nm_len hM.2.2 (fun _ _ _ _ h => by cases h) (fun _ _ h => by cases h)
  subst hln
  have hd : decode M.2.1 pc = .ok (.aload k, 2) := hM.1
  rcases ax_ld_inv h with ⟨x, hg, hk, rfl⟩ | ⟨x, hg, hk, rfl⟩ | ⟨x, hg, hk, rfl⟩
  · cases hk
  · cases hk
  · exact lv_aload hx hb hd (ax_cl_at hl hg) (kk Hm locs cells slots ls ad V)
theorem ax_w_istore_n {k : Fin 4} (C : ax_CT D dA ro X A p R s m args meth c M d) (hM : ax_PE M (pc, .istore_n k, len, r1, r2, r3)) (V : ax_IV D dA ro X A s M.2.2.1 c0 s0 ad0 L H Hm locs cells slots ls ad) (h : ax_s1 (pc, .istore_n k, len, r1, r2, r3) L S H = some q) (hc : q.2.2.2.2.1.1 ≤ c0 + R.cells) (hs : q.2.2.2.2.1.2 ≤ s0 + R.slots) (kk : ax_KK p l e R s m args below meth c Q D dA ro X A M.2.2.1 c0 s0 ad0 q) : W p l e R s m args below meth c Hm locs cells slots Q (F0 m pc ls (S.map (ax_cv ad ro))) := by
  obtain ⟨hx, hb, hml, hown, hts, hnm, hA, hSt, hfr, hlo⟩ := id C
  obtain ⟨hP, hD, hS, hl, had, hle, hX, hcc, hss, hpre⟩ := id V
  have hln : len = 1 := ax_nm_len hM.2.2 (fun _ _ _ _ h => by cases h) (fun _ _ h => by cases h)
  subst hln
  have hd : decode M.2.1 pc = .ok (.istore_n k, 1) := hM.1
  have hbd : (k : Nat) < M.2.2.1 := Nat.le_of_ble_eq_true (by have h9 := hM.2.2; simp only [ax_nm, Bool.and_eq_true] at h9; exact h9.2)
  rcases ax_st_inv h with ⟨x, r, rfl, hk, rfl⟩ | ⟨x, r, rfl, hk, rfl⟩ | ⟨x, r, rfl, hk, rfl⟩
  · exact lv_istore_n hx hb hd rfl hl hbd rfl (fun ls2 h2 => kk Hm locs cells slots ls2 ad (ax_iv_set1 V h2))
  · cases hk
  · cases hk
theorem ax_w_istore {k : Nat} (C : ax_CT D dA ro X A p R s m args meth c M d) (hM : ax_PE M (pc, .istore k, len, r1, r2, r3)) (V : ax_IV D dA ro X A s M.2.2.1 c0 s0 ad0 L H Hm locs cells slots ls ad) (h : ax_s1 (pc, .istore k, len, r1, r2, r3) L S H = some q) (hc : q.2.2.2.2.1.1 ≤ c0 + R.cells) (hs : q.2.2.2.2.1.2 ≤ s0 + R.slots) (kk : ax_KK p l e R s m args below meth c Q D dA ro X A M.2.2.1 c0 s0 ad0 q) : W p l e R s m args below meth c Hm locs cells slots Q (F0 m pc ls (S.map (ax_cv ad ro))) := by
  obtain ⟨hx, hb, hml, hown, hts, hnm, hA, hSt, hfr, hlo⟩ := id C
  obtain ⟨hP, hD, hS, hl, had, hle, hX, hcc, hss, hpre⟩ := id V
  have hln : len = 2 := ax_nm_len hM.2.2 (fun _ _ _ _ h => by cases h) (fun _ _ h => by cases h)
  subst hln
  have hd : decode M.2.1 pc = .ok (.istore k, 2) := hM.1
  have hbd : (k : Nat) < M.2.2.1 := Nat.le_of_ble_eq_true (by have h9 := hM.2.2; simp only [ax_nm, Bool.and_eq_true] at h9; exact h9.2)
  rcases ax_st_inv h with ⟨x, r, rfl, hk, rfl⟩ | ⟨x, r, rfl, hk, rfl⟩ | ⟨x, r, rfl, hk, rfl⟩
  · exact lv_istore hx hb hd hl hbd rfl (fun ls2 h2 => kk Hm locs cells slots ls2 ad (ax_iv_set1 V h2))
  · cases hk
  · cases hk
theorem ax_w_lstore_n {k : Fin 4} (C : ax_CT D dA ro X A p R s m args meth c M d) (hM : ax_PE M (pc, .lstore_n k, len, r1, r2, r3)) (V : ax_IV D dA ro X A s M.2.2.1 c0 s0 ad0 L H Hm locs cells slots ls ad) (h : ax_s1 (pc, .lstore_n k, len, r1, r2, r3) L S H = some q) (hc : q.2.2.2.2.1.1 ≤ c0 + R.cells) (hs : q.2.2.2.2.1.2 ≤ s0 + R.slots) (kk : ax_KK p l e R s m args below meth c Q D dA ro X A M.2.2.1 c0 s0 ad0 q) : W p l e R s m args below meth c Hm locs cells slots Q (F0 m pc ls (S.map (ax_cv ad ro))) := by
  obtain ⟨hx, hb, hml, hown, hts, hnm, hA, hSt, hfr, hlo⟩ := id C
  obtain ⟨hP, hD, hS, hl, had, hle, hX, hcc, hss, hpre⟩ := id V
  have hln : len = 1 := ax_nm_len hM.2.2 (fun _ _ _ _ h => by cases h) (fun _ _ h => by cases h)
  subst hln
  have hd : decode M.2.1 pc = .ok (.lstore_n k, 1) := hM.1
  have hbd : (k : Nat) + 1 < M.2.2.1 := Nat.le_of_ble_eq_true (by have h9 := hM.2.2; simp only [ax_nm, Bool.and_eq_true] at h9; exact h9.2)
  rcases ax_st_inv h with ⟨x, r, rfl, hk, rfl⟩ | ⟨x, r, rfl, hk, rfl⟩ | ⟨x, r, rfl, hk, rfl⟩
  · cases hk
  · exact lv_lstore_n hx hb hd rfl hl hbd rfl (fun ls2 h2 => kk Hm locs cells slots ls2 ad (ax_iv_set2 V h2))
  · cases hk
theorem ax_w_lstore {k : Nat} (C : ax_CT D dA ro X A p R s m args meth c M d) (hM : ax_PE M (pc, .lstore k, len, r1, r2, r3)) (V : ax_IV D dA ro X A s M.2.2.1 c0 s0 ad0 L H Hm locs cells slots ls ad) (h : ax_s1 (pc, .lstore k, len, r1, r2, r3) L S H = some q) (hc : q.2.2.2.2.1.1 ≤ c0 + R.cells) (hs : q.2.2.2.2.1.2 ≤ s0 + R.slots) (kk : ax_KK p l e R s m args below meth c Q D dA ro X A M.2.2.1 c0 s0 ad0 q) : W p l e R s m args below meth c Hm locs cells slots Q (F0 m pc ls (S.map (ax_cv ad ro))) := by
  obtain ⟨hx, hb, hml, hown, hts, hnm, hA, hSt, hfr, hlo⟩ := id C
  obtain ⟨hP, hD, hS, hl, had, hle, hX, hcc, hss, hpre⟩ := id V
  have hln : len = 2 := ax_nm_len hM.2.2 (fun _ _ _ _ h => by cases h) (fun _ _ h => by cases h)
  subst hln
  have hd : decode M.2.1 pc = .ok (.lstore k, 2) := hM.1
  have hbd : (k : Nat) + 1 < M.2.2.1 := Nat.le_of_ble_eq_true (by have h9 := hM.2.2; simp only [ax_nm, Bool.and_eq_true] at h9; exact h9.2)
  rcases ax_st_inv h with ⟨x, r, rfl, hk, rfl⟩ | ⟨x, r, rfl, hk, rfl⟩ | ⟨x, r, rfl, hk, rfl⟩
  · cases hk
  · exact lv_lstore hx hb hd hl hbd rfl (fun ls2 h2 => kk Hm locs cells slots ls2 ad (ax_iv_set2 V h2))
  · cases hk
theorem ax_w_astore_n {k : Fin 4} (C : ax_CT D dA ro X A p R s m args meth c M d) (hM : ax_PE M (pc, .astore_n k, len, r1, r2, r3)) (V : ax_IV D dA ro X A s M.2.2.1 c0 s0 ad0 L H Hm locs cells slots ls ad) (h : ax_s1 (pc, .astore_n k, len, r1, r2, r3) L S H = some q) (hc : q.2.2.2.2.1.1 ≤ c0 + R.cells) (hs : q.2.2.2.2.1.2 ≤ s0 + R.slots) (kk : ax_KK p l e R s m args below meth c Q D dA ro X A M.2.2.1 c0 s0 ad0 q) : W p l e R s m args below meth c Hm locs cells slots Q (F0 m pc ls (S.map (ax_cv ad ro))) := by
  obtain ⟨hx, hb, hml, hown, hts, hnm, hA, hSt, hfr, hlo⟩ := id C
  obtain ⟨hP, hD, hS, hl, had, hle, hX, hcc, hss, hpre⟩ := id V
  have hln : len = 1 := ax_nm_len hM.2.2 (fun _ _ _ _ h => by cases h) (fun _ _ h => by cases h)
  subst hln
  have hd : decode M.2.1 pc = .ok (.astore_n k, 1) := hM.1
  have hbd : (k : Nat) < M.2.2.1 := Nat.le_of_ble_eq_true (by have h9 := hM.2.2; simp only [ax_nm, Bool.and_eq_true] at h9; exact h9.2)
  rcases ax_st_inv h with ⟨x, r, rfl, hk, rfl⟩ | ⟨x, r, rfl, hk, rfl⟩ | ⟨x, r, rfl, hk, rfl⟩
  · cases hk
  · cases hk
  · exact lv_astore_n hx hb hd rfl hl hbd rfl (fun ls2 h2 => kk Hm locs cells slots ls2 ad (ax_iv_set1 V h2))
theorem ax_w_astore {k : Nat} (C : ax_CT D dA ro X A p R s m args meth c M d) (hM : ax_PE M (pc, .astore k, len, r1, r2, r3)) (V : ax_IV D dA ro X A s M.2.2.1 c0 s0 ad0 L H Hm locs cells slots ls ad) (h : ax_s1 (pc, .astore k, len, r1, r2, r3) L S H = some q) (hc : q.2.2.2.2.1.1 ≤ c0 + R.cells) (hs : q.2.2.2.2.1.2 ≤ s0 + R.slots) (kk : ax_KK p l e R s m args below meth c Q D dA ro X A M.2.2.1 c0 s0 ad0 q) : W p l e R s m args below meth c Hm locs cells slots Q (F0 m pc ls (S.map (ax_cv ad ro))) := by
  obtain ⟨hx, hb, hml, hown, hts, hnm, hA, hSt, hfr, hlo⟩ := id C
  obtain ⟨hP, hD, hS, hl, had, hle, hX, hcc, hss, hpre⟩ := id V
  have hln : len = 2 := ax_nm_len hM.2.2 (fun _ _ _ _ h => by cases h) (fun _ _ h => by cases h)
  subst hln
  have hd : decode M.2.1 pc = .ok (.astore k, 2) := hM.1
  have hbd : (k : Nat) < M.2.2.1 := Nat.le_of_ble_eq_true (by have h9 := hM.2.2; simp only [ax_nm, Bool.and_eq_true] at h9; exact h9.2)
  rcases ax_st_inv h with ⟨x, r, rfl, hk, rfl⟩ | ⟨x, r, rfl, hk, rfl⟩ | ⟨x, r, rfl, hk, rfl⟩
  · cases hk
  · cases hk
  · exact lv_astore hx hb hd hl hbd rfl (fun ls2 h2 => kk Hm locs cells slots ls2 ad (ax_iv_set1 V h2))
theorem ax_w_iinc {k : Nat} {n : Int} (C : ax_CT D dA ro X A p R s m args meth c M d) (hM : ax_PE M (pc, .iinc k n, len, r1, r2, r3)) (V : ax_IV D dA ro X A s M.2.2.1 c0 s0 ad0 L H Hm locs cells slots ls ad) (h : ax_s1 (pc, .iinc k n, len, r1, r2, r3) L S H = some q) (hc : q.2.2.2.2.1.1 ≤ c0 + R.cells) (hs : q.2.2.2.2.1.2 ≤ s0 + R.slots) (kk : ax_KK p l e R s m args below meth c Q D dA ro X A M.2.2.1 c0 s0 ad0 q) : W p l e R s m args below meth c Hm locs cells slots Q (F0 m pc ls (S.map (ax_cv ad ro))) := by
  obtain ⟨hx, hb, hml, hown, hts, hnm, hA, hSt, hfr, hlo⟩ := id C
  obtain ⟨hP, hD, hS, hl, had, hle, hX, hcc, hss, hpre⟩ := id V
  have hln : len = 3 := ax_nm_len hM.2.2 (fun _ _ _ _ h => by cases h) (fun _ _ h => by cases h)
  subst hln
  have hd : decode M.2.1 pc = .ok (.iinc k n, 3) := hM.1
  have hbd : k < M.2.2.1 := Nat.le_of_ble_eq_true (by have h9 := hM.2.2; simp only [ax_nm, Bool.and_eq_true] at h9; exact h9.2)
  simp only [ax_s1] at h
  split at h
  · rename_i x hg
    cases h
    obtain ⟨j, hj⟩ := List.getElem?_of_mem (List.mem_map.mpr ⟨(k, .int x), ax_get_mem hg, rfl⟩ : (k, ax_cv ad ro (.int x)) ∈ ax_cl ad ro L)
    exact lv_iinc hx hb hd hl hj rfl hbd rfl (fun ls2 h2 => kk Hm locs cells slots ls2 ad (ax_iv_set1 V h2))
  · cases h
theorem ax_w_iadd  (C : ax_CT D dA ro X A p R s m args meth c M d) (hM : ax_PE M (pc, .iadd, len, r1, r2, r3)) (V : ax_IV D dA ro X A s M.2.2.1 c0 s0 ad0 L H Hm locs cells slots ls ad) (h : ax_s1 (pc, .iadd, len, r1, r2, r3) L S H = some q) (hc : q.2.2.2.2.1.1 ≤ c0 + R.cells) (hs : q.2.2.2.2.1.2 ≤ s0 + R.slots) (kk : ax_KK p l e R s m args below meth c Q D dA ro X A M.2.2.1 c0 s0 ad0 q) : W p l e R s m args below meth c Hm locs cells slots Q (F0 m pc ls (S.map (ax_cv ad ro))) := by
  obtain ⟨hx, hb, hml, hown, hts, hnm, hA, hSt, hfr, hlo⟩ := id C
  obtain ⟨hP, hD, hS, hl, had, hle, hX, hcc, hss, hpre⟩ := id V
  have hln : len = 1 := ax_nm_len hM.2.2 (fun _ _ _ _ h => by cases h) (fun _ _ h => by cases h)
  subst hln
  have hd : decode M.2.1 pc = .ok (.iadd, 1) := hM.1
  obtain ⟨x, y, r, rfl, rfl⟩ := ax_i2_inv h
  exact lv_iadd hx hb hd (kk Hm locs cells slots ls ad V)
theorem ax_w_isub  (C : ax_CT D dA ro X A p R s m args meth c M d) (hM : ax_PE M (pc, .isub, len, r1, r2, r3)) (V : ax_IV D dA ro X A s M.2.2.1 c0 s0 ad0 L H Hm locs cells slots ls ad) (h : ax_s1 (pc, .isub, len, r1, r2, r3) L S H = some q) (hc : q.2.2.2.2.1.1 ≤ c0 + R.cells) (hs : q.2.2.2.2.1.2 ≤ s0 + R.slots) (kk : ax_KK p l e R s m args below meth c Q D dA ro X A M.2.2.1 c0 s0 ad0 q) : W p l e R s m args below meth c Hm locs cells slots Q (F0 m pc ls (S.map (ax_cv ad ro))) := by
  obtain ⟨hx, hb, hml, hown, hts, hnm, hA, hSt, hfr, hlo⟩ := id C
  obtain ⟨hP, hD, hS, hl, had, hle, hX, hcc, hss, hpre⟩ := id V
  have hln : len = 1 := ax_nm_len hM.2.2 (fun _ _ _ _ h => by cases h) (fun _ _ h => by cases h)
  subst hln
  have hd : decode M.2.1 pc = .ok (.isub, 1) := hM.1
  obtain ⟨x, y, r, rfl, rfl⟩ := ax_i2_inv h
  exact lv_isub hx hb hd (kk Hm locs cells slots ls ad V)
theorem ax_w_imul  (C : ax_CT D dA ro X A p R s m args meth c M d) (hM : ax_PE M (pc, .imul, len, r1, r2, r3)) (V : ax_IV D dA ro X A s M.2.2.1 c0 s0 ad0 L H Hm locs cells slots ls ad) (h : ax_s1 (pc, .imul, len, r1, r2, r3) L S H = some q) (hc : q.2.2.2.2.1.1 ≤ c0 + R.cells) (hs : q.2.2.2.2.1.2 ≤ s0 + R.slots) (kk : ax_KK p l e R s m args below meth c Q D dA ro X A M.2.2.1 c0 s0 ad0 q) : W p l e R s m args below meth c Hm locs cells slots Q (F0 m pc ls (S.map (ax_cv ad ro))) := by
  obtain ⟨hx, hb, hml, hown, hts, hnm, hA, hSt, hfr, hlo⟩ := id C
  obtain ⟨hP, hD, hS, hl, had, hle, hX, hcc, hss, hpre⟩ := id V
  have hln : len = 1 := ax_nm_len hM.2.2 (fun _ _ _ _ h => by cases h) (fun _ _ h => by cases h)
  subst hln
  have hd : decode M.2.1 pc = .ok (.imul, 1) := hM.1
  obtain ⟨x, y, r, rfl, rfl⟩ := ax_i2_inv h
  exact lv_imul hx hb hd (kk Hm locs cells slots ls ad V)
theorem ax_w_iand  (C : ax_CT D dA ro X A p R s m args meth c M d) (hM : ax_PE M (pc, .iand, len, r1, r2, r3)) (V : ax_IV D dA ro X A s M.2.2.1 c0 s0 ad0 L H Hm locs cells slots ls ad) (h : ax_s1 (pc, .iand, len, r1, r2, r3) L S H = some q) (hc : q.2.2.2.2.1.1 ≤ c0 + R.cells) (hs : q.2.2.2.2.1.2 ≤ s0 + R.slots) (kk : ax_KK p l e R s m args below meth c Q D dA ro X A M.2.2.1 c0 s0 ad0 q) : W p l e R s m args below meth c Hm locs cells slots Q (F0 m pc ls (S.map (ax_cv ad ro))) := by
  obtain ⟨hx, hb, hml, hown, hts, hnm, hA, hSt, hfr, hlo⟩ := id C
  obtain ⟨hP, hD, hS, hl, had, hle, hX, hcc, hss, hpre⟩ := id V
  have hln : len = 1 := ax_nm_len hM.2.2 (fun _ _ _ _ h => by cases h) (fun _ _ h => by cases h)
  subst hln
  have hd : decode M.2.1 pc = .ok (.iand, 1) := hM.1
  obtain ⟨x, y, r, rfl, rfl⟩ := ax_i2_inv h
  exact lv_iand hx hb hd (kk Hm locs cells slots ls ad V)
theorem ax_w_ior  (C : ax_CT D dA ro X A p R s m args meth c M d) (hM : ax_PE M (pc, .ior, len, r1, r2, r3)) (V : ax_IV D dA ro X A s M.2.2.1 c0 s0 ad0 L H Hm locs cells slots ls ad) (h : ax_s1 (pc, .ior, len, r1, r2, r3) L S H = some q) (hc : q.2.2.2.2.1.1 ≤ c0 + R.cells) (hs : q.2.2.2.2.1.2 ≤ s0 + R.slots) (kk : ax_KK p l e R s m args below meth c Q D dA ro X A M.2.2.1 c0 s0 ad0 q) : W p l e R s m args below meth c Hm locs cells slots Q (F0 m pc ls (S.map (ax_cv ad ro))) := by
  obtain ⟨hx, hb, hml, hown, hts, hnm, hA, hSt, hfr, hlo⟩ := id C
  obtain ⟨hP, hD, hS, hl, had, hle, hX, hcc, hss, hpre⟩ := id V
  have hln : len = 1 := ax_nm_len hM.2.2 (fun _ _ _ _ h => by cases h) (fun _ _ h => by cases h)
  subst hln
  have hd : decode M.2.1 pc = .ok (.ior, 1) := hM.1
  obtain ⟨x, y, r, rfl, rfl⟩ := ax_i2_inv h
  exact lv_ior hx hb hd (kk Hm locs cells slots ls ad V)
theorem ax_w_ixor  (C : ax_CT D dA ro X A p R s m args meth c M d) (hM : ax_PE M (pc, .ixor, len, r1, r2, r3)) (V : ax_IV D dA ro X A s M.2.2.1 c0 s0 ad0 L H Hm locs cells slots ls ad) (h : ax_s1 (pc, .ixor, len, r1, r2, r3) L S H = some q) (hc : q.2.2.2.2.1.1 ≤ c0 + R.cells) (hs : q.2.2.2.2.1.2 ≤ s0 + R.slots) (kk : ax_KK p l e R s m args below meth c Q D dA ro X A M.2.2.1 c0 s0 ad0 q) : W p l e R s m args below meth c Hm locs cells slots Q (F0 m pc ls (S.map (ax_cv ad ro))) := by
  obtain ⟨hx, hb, hml, hown, hts, hnm, hA, hSt, hfr, hlo⟩ := id C
  obtain ⟨hP, hD, hS, hl, had, hle, hX, hcc, hss, hpre⟩ := id V
  have hln : len = 1 := ax_nm_len hM.2.2 (fun _ _ _ _ h => by cases h) (fun _ _ h => by cases h)
  subst hln
  have hd : decode M.2.1 pc = .ok (.ixor, 1) := hM.1
  obtain ⟨x, y, r, rfl, rfl⟩ := ax_i2_inv h
  exact lv_ixor hx hb hd (kk Hm locs cells slots ls ad V)
theorem ax_w_ishl  (C : ax_CT D dA ro X A p R s m args meth c M d) (hM : ax_PE M (pc, .ishl, len, r1, r2, r3)) (V : ax_IV D dA ro X A s M.2.2.1 c0 s0 ad0 L H Hm locs cells slots ls ad) (h : ax_s1 (pc, .ishl, len, r1, r2, r3) L S H = some q) (hc : q.2.2.2.2.1.1 ≤ c0 + R.cells) (hs : q.2.2.2.2.1.2 ≤ s0 + R.slots) (kk : ax_KK p l e R s m args below meth c Q D dA ro X A M.2.2.1 c0 s0 ad0 q) : W p l e R s m args below meth c Hm locs cells slots Q (F0 m pc ls (S.map (ax_cv ad ro))) := by
  obtain ⟨hx, hb, hml, hown, hts, hnm, hA, hSt, hfr, hlo⟩ := id C
  obtain ⟨hP, hD, hS, hl, had, hle, hX, hcc, hss, hpre⟩ := id V
  have hln : len = 1 := ax_nm_len hM.2.2 (fun _ _ _ _ h => by cases h) (fun _ _ h => by cases h)
  subst hln
  have hd : decode M.2.1 pc = .ok (.ishl, 1) := hM.1
  obtain ⟨x, y, r, rfl, rfl⟩ := ax_i2_inv h
  exact lv_ishl hx hb hd (kk Hm locs cells slots ls ad V)
theorem ax_w_ishr  (C : ax_CT D dA ro X A p R s m args meth c M d) (hM : ax_PE M (pc, .ishr, len, r1, r2, r3)) (V : ax_IV D dA ro X A s M.2.2.1 c0 s0 ad0 L H Hm locs cells slots ls ad) (h : ax_s1 (pc, .ishr, len, r1, r2, r3) L S H = some q) (hc : q.2.2.2.2.1.1 ≤ c0 + R.cells) (hs : q.2.2.2.2.1.2 ≤ s0 + R.slots) (kk : ax_KK p l e R s m args below meth c Q D dA ro X A M.2.2.1 c0 s0 ad0 q) : W p l e R s m args below meth c Hm locs cells slots Q (F0 m pc ls (S.map (ax_cv ad ro))) := by
  obtain ⟨hx, hb, hml, hown, hts, hnm, hA, hSt, hfr, hlo⟩ := id C
  obtain ⟨hP, hD, hS, hl, had, hle, hX, hcc, hss, hpre⟩ := id V
  have hln : len = 1 := ax_nm_len hM.2.2 (fun _ _ _ _ h => by cases h) (fun _ _ h => by cases h)
  subst hln
  have hd : decode M.2.1 pc = .ok (.ishr, 1) := hM.1
  obtain ⟨x, y, r, rfl, rfl⟩ := ax_i2_inv h
  exact lv_ishr hx hb hd (kk Hm locs cells slots ls ad V)
theorem ax_w_iushr  (C : ax_CT D dA ro X A p R s m args meth c M d) (hM : ax_PE M (pc, .iushr, len, r1, r2, r3)) (V : ax_IV D dA ro X A s M.2.2.1 c0 s0 ad0 L H Hm locs cells slots ls ad) (h : ax_s1 (pc, .iushr, len, r1, r2, r3) L S H = some q) (hc : q.2.2.2.2.1.1 ≤ c0 + R.cells) (hs : q.2.2.2.2.1.2 ≤ s0 + R.slots) (kk : ax_KK p l e R s m args below meth c Q D dA ro X A M.2.2.1 c0 s0 ad0 q) : W p l e R s m args below meth c Hm locs cells slots Q (F0 m pc ls (S.map (ax_cv ad ro))) := by
  obtain ⟨hx, hb, hml, hown, hts, hnm, hA, hSt, hfr, hlo⟩ := id C
  obtain ⟨hP, hD, hS, hl, had, hle, hX, hcc, hss, hpre⟩ := id V
  have hln : len = 1 := ax_nm_len hM.2.2 (fun _ _ _ _ h => by cases h) (fun _ _ h => by cases h)
  subst hln
  have hd : decode M.2.1 pc = .ok (.iushr, 1) := hM.1
  obtain ⟨x, y, r, rfl, rfl⟩ := ax_i2_inv h
  exact lv_iushr hx hb hd rfl (kk Hm locs cells slots ls ad V)
theorem ax_w_idiv  (C : ax_CT D dA ro X A p R s m args meth c M d) (hM : ax_PE M (pc, .idiv, len, r1, r2, r3)) (V : ax_IV D dA ro X A s M.2.2.1 c0 s0 ad0 L H Hm locs cells slots ls ad) (h : ax_s1 (pc, .idiv, len, r1, r2, r3) L S H = some q) (hc : q.2.2.2.2.1.1 ≤ c0 + R.cells) (hs : q.2.2.2.2.1.2 ≤ s0 + R.slots) (kk : ax_KK p l e R s m args below meth c Q D dA ro X A M.2.2.1 c0 s0 ad0 q) : W p l e R s m args below meth c Hm locs cells slots Q (F0 m pc ls (S.map (ax_cv ad ro))) := by
  obtain ⟨hx, hb, hml, hown, hts, hnm, hA, hSt, hfr, hlo⟩ := id C
  obtain ⟨hP, hD, hS, hl, had, hle, hX, hcc, hss, hpre⟩ := id V
  have hln : len = 1 := ax_nm_len hM.2.2 (fun _ _ _ _ h => by cases h) (fun _ _ h => by cases h)
  subst hln
  have hd : decode M.2.1 pc = .ok (.idiv, 1) := hM.1
  simp only [ax_s1] at h
  split at h
  · split at h
    · cases h
    · rename_i hne
      cases h
      exact lv_idiv hx hb hd hne (kk Hm locs cells slots ls ad V)
  · cases h
theorem ax_w_irem  (C : ax_CT D dA ro X A p R s m args meth c M d) (hM : ax_PE M (pc, .irem, len, r1, r2, r3)) (V : ax_IV D dA ro X A s M.2.2.1 c0 s0 ad0 L H Hm locs cells slots ls ad) (h : ax_s1 (pc, .irem, len, r1, r2, r3) L S H = some q) (hc : q.2.2.2.2.1.1 ≤ c0 + R.cells) (hs : q.2.2.2.2.1.2 ≤ s0 + R.slots) (kk : ax_KK p l e R s m args below meth c Q D dA ro X A M.2.2.1 c0 s0 ad0 q) : W p l e R s m args below meth c Hm locs cells slots Q (F0 m pc ls (S.map (ax_cv ad ro))) := by
  obtain ⟨hx, hb, hml, hown, hts, hnm, hA, hSt, hfr, hlo⟩ := id C
  obtain ⟨hP, hD, hS, hl, had, hle, hX, hcc, hss, hpre⟩ := id V
  have hln : len = 1 := ax_nm_len hM.2.2 (fun _ _ _ _ h => by cases h) (fun _ _ h => by cases h)
  subst hln
  have hd : decode M.2.1 pc = .ok (.irem, 1) := hM.1
  simp only [ax_s1] at h
  split at h
  · split at h
    · cases h
    · rename_i hne
      cases h
      exact lv_irem hx hb hd hne (kk Hm locs cells slots ls ad V)
  · cases h
theorem ax_w_ldiv  (C : ax_CT D dA ro X A p R s m args meth c M d) (hM : ax_PE M (pc, .ldiv, len, r1, r2, r3)) (V : ax_IV D dA ro X A s M.2.2.1 c0 s0 ad0 L H Hm locs cells slots ls ad) (h : ax_s1 (pc, .ldiv, len, r1, r2, r3) L S H = some q) (hc : q.2.2.2.2.1.1 ≤ c0 + R.cells) (hs : q.2.2.2.2.1.2 ≤ s0 + R.slots) (kk : ax_KK p l e R s m args below meth c Q D dA ro X A M.2.2.1 c0 s0 ad0 q) : W p l e R s m args below meth c Hm locs cells slots Q (F0 m pc ls (S.map (ax_cv ad ro))) := by
  obtain ⟨hx, hb, hml, hown, hts, hnm, hA, hSt, hfr, hlo⟩ := id C
  obtain ⟨hP, hD, hS, hl, had, hle, hX, hcc, hss, hpre⟩ := id V
  have hln : len = 1 := ax_nm_len hM.2.2 (fun _ _ _ _ h => by cases h) (fun _ _ h => by cases h)
  subst hln
  have hd : decode M.2.1 pc = .ok (.ldiv, 1) := hM.1
  simp only [ax_s1] at h
  split at h
  · split at h
    · cases h
    · rename_i hne
      cases h
      exact lv_ldiv hx hb hd hne (kk Hm locs cells slots ls ad V)
  · cases h
theorem ax_w_lrem  (C : ax_CT D dA ro X A p R s m args meth c M d) (hM : ax_PE M (pc, .lrem, len, r1, r2, r3)) (V : ax_IV D dA ro X A s M.2.2.1 c0 s0 ad0 L H Hm locs cells slots ls ad) (h : ax_s1 (pc, .lrem, len, r1, r2, r3) L S H = some q) (hc : q.2.2.2.2.1.1 ≤ c0 + R.cells) (hs : q.2.2.2.2.1.2 ≤ s0 + R.slots) (kk : ax_KK p l e R s m args below meth c Q D dA ro X A M.2.2.1 c0 s0 ad0 q) : W p l e R s m args below meth c Hm locs cells slots Q (F0 m pc ls (S.map (ax_cv ad ro))) := by
  obtain ⟨hx, hb, hml, hown, hts, hnm, hA, hSt, hfr, hlo⟩ := id C
  obtain ⟨hP, hD, hS, hl, had, hle, hX, hcc, hss, hpre⟩ := id V
  have hln : len = 1 := ax_nm_len hM.2.2 (fun _ _ _ _ h => by cases h) (fun _ _ h => by cases h)
  subst hln
  have hd : decode M.2.1 pc = .ok (.lrem, 1) := hM.1
  simp only [ax_s1] at h
  split at h
  · split at h
    · cases h
    · rename_i hne
      cases h
      exact lv_lrem hx hb hd hne (kk Hm locs cells slots ls ad V)
  · cases h
theorem ax_w_ineg  (C : ax_CT D dA ro X A p R s m args meth c M d) (hM : ax_PE M (pc, .ineg, len, r1, r2, r3)) (V : ax_IV D dA ro X A s M.2.2.1 c0 s0 ad0 L H Hm locs cells slots ls ad) (h : ax_s1 (pc, .ineg, len, r1, r2, r3) L S H = some q) (hc : q.2.2.2.2.1.1 ≤ c0 + R.cells) (hs : q.2.2.2.2.1.2 ≤ s0 + R.slots) (kk : ax_KK p l e R s m args below meth c Q D dA ro X A M.2.2.1 c0 s0 ad0 q) : W p l e R s m args below meth c Hm locs cells slots Q (F0 m pc ls (S.map (ax_cv ad ro))) := by
  obtain ⟨hx, hb, hml, hown, hts, hnm, hA, hSt, hfr, hlo⟩ := id C
  obtain ⟨hP, hD, hS, hl, had, hle, hX, hcc, hss, hpre⟩ := id V
  have hln : len = 1 := ax_nm_len hM.2.2 (fun _ _ _ _ h => by cases h) (fun _ _ h => by cases h)
  subst hln
  have hd : decode M.2.1 pc = .ok (.ineg, 1) := hM.1
  obtain ⟨x, r, rfl, rfl⟩ := ax_i1_inv h
  exact lv_ineg hx hb hd (kk Hm locs cells slots ls ad V)
theorem ax_w_i2b  (C : ax_CT D dA ro X A p R s m args meth c M d) (hM : ax_PE M (pc, .i2b, len, r1, r2, r3)) (V : ax_IV D dA ro X A s M.2.2.1 c0 s0 ad0 L H Hm locs cells slots ls ad) (h : ax_s1 (pc, .i2b, len, r1, r2, r3) L S H = some q) (hc : q.2.2.2.2.1.1 ≤ c0 + R.cells) (hs : q.2.2.2.2.1.2 ≤ s0 + R.slots) (kk : ax_KK p l e R s m args below meth c Q D dA ro X A M.2.2.1 c0 s0 ad0 q) : W p l e R s m args below meth c Hm locs cells slots Q (F0 m pc ls (S.map (ax_cv ad ro))) := by
  obtain ⟨hx, hb, hml, hown, hts, hnm, hA, hSt, hfr, hlo⟩ := id C
  obtain ⟨hP, hD, hS, hl, had, hle, hX, hcc, hss, hpre⟩ := id V
  have hln : len = 1 := ax_nm_len hM.2.2 (fun _ _ _ _ h => by cases h) (fun _ _ h => by cases h)
  subst hln
  have hd : decode M.2.1 pc = .ok (.i2b, 1) := hM.1
  obtain ⟨x, r, rfl, rfl⟩ := ax_i1_inv h
  exact lv_i2b hx hb hd rfl (kk Hm locs cells slots ls ad V)
theorem ax_w_i2s  (C : ax_CT D dA ro X A p R s m args meth c M d) (hM : ax_PE M (pc, .i2s, len, r1, r2, r3)) (V : ax_IV D dA ro X A s M.2.2.1 c0 s0 ad0 L H Hm locs cells slots ls ad) (h : ax_s1 (pc, .i2s, len, r1, r2, r3) L S H = some q) (hc : q.2.2.2.2.1.1 ≤ c0 + R.cells) (hs : q.2.2.2.2.1.2 ≤ s0 + R.slots) (kk : ax_KK p l e R s m args below meth c Q D dA ro X A M.2.2.1 c0 s0 ad0 q) : W p l e R s m args below meth c Hm locs cells slots Q (F0 m pc ls (S.map (ax_cv ad ro))) := by
  obtain ⟨hx, hb, hml, hown, hts, hnm, hA, hSt, hfr, hlo⟩ := id C
  obtain ⟨hP, hD, hS, hl, had, hle, hX, hcc, hss, hpre⟩ := id V
  have hln : len = 1 := ax_nm_len hM.2.2 (fun _ _ _ _ h => by cases h) (fun _ _ h => by cases h)
  subst hln
  have hd : decode M.2.1 pc = .ok (.i2s, 1) := hM.1
  obtain ⟨x, r, rfl, rfl⟩ := ax_i1_inv h
  exact lv_i2s hx hb hd rfl (kk Hm locs cells slots ls ad V)
theorem ax_w_i2c  (C : ax_CT D dA ro X A p R s m args meth c M d) (hM : ax_PE M (pc, .i2c, len, r1, r2, r3)) (V : ax_IV D dA ro X A s M.2.2.1 c0 s0 ad0 L H Hm locs cells slots ls ad) (h : ax_s1 (pc, .i2c, len, r1, r2, r3) L S H = some q) (hc : q.2.2.2.2.1.1 ≤ c0 + R.cells) (hs : q.2.2.2.2.1.2 ≤ s0 + R.slots) (kk : ax_KK p l e R s m args below meth c Q D dA ro X A M.2.2.1 c0 s0 ad0 q) : W p l e R s m args below meth c Hm locs cells slots Q (F0 m pc ls (S.map (ax_cv ad ro))) := by
  obtain ⟨hx, hb, hml, hown, hts, hnm, hA, hSt, hfr, hlo⟩ := id C
  obtain ⟨hP, hD, hS, hl, had, hle, hX, hcc, hss, hpre⟩ := id V
  have hln : len = 1 := ax_nm_len hM.2.2 (fun _ _ _ _ h => by cases h) (fun _ _ h => by cases h)
  subst hln
  have hd : decode M.2.1 pc = .ok (.i2c, 1) := hM.1
  obtain ⟨x, r, rfl, rfl⟩ := ax_i1_inv h
  exact lv_i2c hx hb hd rfl (kk Hm locs cells slots ls ad V)
theorem ax_w_i2l  (C : ax_CT D dA ro X A p R s m args meth c M d) (hM : ax_PE M (pc, .i2l, len, r1, r2, r3)) (V : ax_IV D dA ro X A s M.2.2.1 c0 s0 ad0 L H Hm locs cells slots ls ad) (h : ax_s1 (pc, .i2l, len, r1, r2, r3) L S H = some q) (hc : q.2.2.2.2.1.1 ≤ c0 + R.cells) (hs : q.2.2.2.2.1.2 ≤ s0 + R.slots) (kk : ax_KK p l e R s m args below meth c Q D dA ro X A M.2.2.1 c0 s0 ad0 q) : W p l e R s m args below meth c Hm locs cells slots Q (F0 m pc ls (S.map (ax_cv ad ro))) := by
  obtain ⟨hx, hb, hml, hown, hts, hnm, hA, hSt, hfr, hlo⟩ := id C
  obtain ⟨hP, hD, hS, hl, had, hle, hX, hcc, hss, hpre⟩ := id V
  have hln : len = 1 := ax_nm_len hM.2.2 (fun _ _ _ _ h => by cases h) (fun _ _ h => by cases h)
  subst hln
  have hd : decode M.2.1 pc = .ok (.i2l, 1) := hM.1
  simp only [ax_s1] at h
  split at h
  · cases h
    exact lv_i2l hx hb hd rfl (kk Hm locs cells slots ls ad V)
  · cases h
theorem ax_w_ladd  (C : ax_CT D dA ro X A p R s m args meth c M d) (hM : ax_PE M (pc, .ladd, len, r1, r2, r3)) (V : ax_IV D dA ro X A s M.2.2.1 c0 s0 ad0 L H Hm locs cells slots ls ad) (h : ax_s1 (pc, .ladd, len, r1, r2, r3) L S H = some q) (hc : q.2.2.2.2.1.1 ≤ c0 + R.cells) (hs : q.2.2.2.2.1.2 ≤ s0 + R.slots) (kk : ax_KK p l e R s m args below meth c Q D dA ro X A M.2.2.1 c0 s0 ad0 q) : W p l e R s m args below meth c Hm locs cells slots Q (F0 m pc ls (S.map (ax_cv ad ro))) := by
  obtain ⟨hx, hb, hml, hown, hts, hnm, hA, hSt, hfr, hlo⟩ := id C
  obtain ⟨hP, hD, hS, hl, had, hle, hX, hcc, hss, hpre⟩ := id V
  have hln : len = 1 := ax_nm_len hM.2.2 (fun _ _ _ _ h => by cases h) (fun _ _ h => by cases h)
  subst hln
  have hd : decode M.2.1 pc = .ok (.ladd, 1) := hM.1
  obtain ⟨x, y, r, rfl, rfl⟩ := ax_l2_inv h
  exact lv_ladd hx hb hd (kk Hm locs cells slots ls ad V)
theorem ax_w_lsub  (C : ax_CT D dA ro X A p R s m args meth c M d) (hM : ax_PE M (pc, .lsub, len, r1, r2, r3)) (V : ax_IV D dA ro X A s M.2.2.1 c0 s0 ad0 L H Hm locs cells slots ls ad) (h : ax_s1 (pc, .lsub, len, r1, r2, r3) L S H = some q) (hc : q.2.2.2.2.1.1 ≤ c0 + R.cells) (hs : q.2.2.2.2.1.2 ≤ s0 + R.slots) (kk : ax_KK p l e R s m args below meth c Q D dA ro X A M.2.2.1 c0 s0 ad0 q) : W p l e R s m args below meth c Hm locs cells slots Q (F0 m pc ls (S.map (ax_cv ad ro))) := by
  obtain ⟨hx, hb, hml, hown, hts, hnm, hA, hSt, hfr, hlo⟩ := id C
  obtain ⟨hP, hD, hS, hl, had, hle, hX, hcc, hss, hpre⟩ := id V
  have hln : len = 1 := ax_nm_len hM.2.2 (fun _ _ _ _ h => by cases h) (fun _ _ h => by cases h)
  subst hln
  have hd : decode M.2.1 pc = .ok (.lsub, 1) := hM.1
  obtain ⟨x, y, r, rfl, rfl⟩ := ax_l2_inv h
  exact lv_lsub hx hb hd (kk Hm locs cells slots ls ad V)
theorem ax_w_lmul  (C : ax_CT D dA ro X A p R s m args meth c M d) (hM : ax_PE M (pc, .lmul, len, r1, r2, r3)) (V : ax_IV D dA ro X A s M.2.2.1 c0 s0 ad0 L H Hm locs cells slots ls ad) (h : ax_s1 (pc, .lmul, len, r1, r2, r3) L S H = some q) (hc : q.2.2.2.2.1.1 ≤ c0 + R.cells) (hs : q.2.2.2.2.1.2 ≤ s0 + R.slots) (kk : ax_KK p l e R s m args below meth c Q D dA ro X A M.2.2.1 c0 s0 ad0 q) : W p l e R s m args below meth c Hm locs cells slots Q (F0 m pc ls (S.map (ax_cv ad ro))) := by
  obtain ⟨hx, hb, hml, hown, hts, hnm, hA, hSt, hfr, hlo⟩ := id C
  obtain ⟨hP, hD, hS, hl, had, hle, hX, hcc, hss, hpre⟩ := id V
  have hln : len = 1 := ax_nm_len hM.2.2 (fun _ _ _ _ h => by cases h) (fun _ _ h => by cases h)
  subst hln
  have hd : decode M.2.1 pc = .ok (.lmul, 1) := hM.1
  obtain ⟨x, y, r, rfl, rfl⟩ := ax_l2_inv h
  exact lv_lmul hx hb hd (kk Hm locs cells slots ls ad V)
theorem ax_w_lcmp  (C : ax_CT D dA ro X A p R s m args meth c M d) (hM : ax_PE M (pc, .lcmp, len, r1, r2, r3)) (V : ax_IV D dA ro X A s M.2.2.1 c0 s0 ad0 L H Hm locs cells slots ls ad) (h : ax_s1 (pc, .lcmp, len, r1, r2, r3) L S H = some q) (hc : q.2.2.2.2.1.1 ≤ c0 + R.cells) (hs : q.2.2.2.2.1.2 ≤ s0 + R.slots) (kk : ax_KK p l e R s m args below meth c Q D dA ro X A M.2.2.1 c0 s0 ad0 q) : W p l e R s m args below meth c Hm locs cells slots Q (F0 m pc ls (S.map (ax_cv ad ro))) := by
  obtain ⟨hx, hb, hml, hown, hts, hnm, hA, hSt, hfr, hlo⟩ := id C
  obtain ⟨hP, hD, hS, hl, had, hle, hX, hcc, hss, hpre⟩ := id V
  have hln : len = 1 := ax_nm_len hM.2.2 (fun _ _ _ _ h => by cases h) (fun _ _ h => by cases h)
  subst hln
  have hd : decode M.2.1 pc = .ok (.lcmp, 1) := hM.1
  simp only [ax_s1] at h
  split at h
  · cases h
    exact W.lcmp hx hb hd (kk Hm locs cells slots ls ad V)
  · cases h
theorem ax_w_dup  (C : ax_CT D dA ro X A p R s m args meth c M d) (hM : ax_PE M (pc, .dup, len, r1, r2, r3)) (V : ax_IV D dA ro X A s M.2.2.1 c0 s0 ad0 L H Hm locs cells slots ls ad) (h : ax_s1 (pc, .dup, len, r1, r2, r3) L S H = some q) (hc : q.2.2.2.2.1.1 ≤ c0 + R.cells) (hs : q.2.2.2.2.1.2 ≤ s0 + R.slots) (kk : ax_KK p l e R s m args below meth c Q D dA ro X A M.2.2.1 c0 s0 ad0 q) : W p l e R s m args below meth c Hm locs cells slots Q (F0 m pc ls (S.map (ax_cv ad ro))) := by
  obtain ⟨hx, hb, hml, hown, hts, hnm, hA, hSt, hfr, hlo⟩ := id C
  obtain ⟨hP, hD, hS, hl, had, hle, hX, hcc, hss, hpre⟩ := id V
  have hln : len = 1 := ax_nm_len hM.2.2 (fun _ _ _ _ h => by cases h) (fun _ _ h => by cases h)
  subst hln
  have hd : decode M.2.1 pc = .ok (.dup, 1) := hM.1
  simp only [ax_s1] at h
  split at h
  · obtain ⟨h1, h⟩ := ax_bif h
    cases h
    exact lv_dup hx hb hd (by rw [ax_cv_cat]; exact Nat.eq_of_beq_eq_true h1) (kk Hm locs cells slots ls ad V)
  · cases h
theorem ax_w_pop  (C : ax_CT D dA ro X A p R s m args meth c M d) (hM : ax_PE M (pc, .pop, len, r1, r2, r3)) (V : ax_IV D dA ro X A s M.2.2.1 c0 s0 ad0 L H Hm locs cells slots ls ad) (h : ax_s1 (pc, .pop, len, r1, r2, r3) L S H = some q) (hc : q.2.2.2.2.1.1 ≤ c0 + R.cells) (hs : q.2.2.2.2.1.2 ≤ s0 + R.slots) (kk : ax_KK p l e R s m args below meth c Q D dA ro X A M.2.2.1 c0 s0 ad0 q) : W p l e R s m args below meth c Hm locs cells slots Q (F0 m pc ls (S.map (ax_cv ad ro))) := by
  obtain ⟨hx, hb, hml, hown, hts, hnm, hA, hSt, hfr, hlo⟩ := id C
  obtain ⟨hP, hD, hS, hl, had, hle, hX, hcc, hss, hpre⟩ := id V
  have hln : len = 1 := ax_nm_len hM.2.2 (fun _ _ _ _ h => by cases h) (fun _ _ h => by cases h)
  subst hln
  have hd : decode M.2.1 pc = .ok (.pop, 1) := hM.1
  simp only [ax_s1] at h
  split at h
  · obtain ⟨h1, h⟩ := ax_bif h
    cases h
    exact lv_pop hx hb hd (by rw [ax_cv_cat]; exact Nat.eq_of_beq_eq_true h1) (kk Hm locs cells slots ls ad V)
  · cases h
theorem ax_w_dup_x1  (C : ax_CT D dA ro X A p R s m args meth c M d) (hM : ax_PE M (pc, .dup_x1, len, r1, r2, r3)) (V : ax_IV D dA ro X A s M.2.2.1 c0 s0 ad0 L H Hm locs cells slots ls ad) (h : ax_s1 (pc, .dup_x1, len, r1, r2, r3) L S H = some q) (hc : q.2.2.2.2.1.1 ≤ c0 + R.cells) (hs : q.2.2.2.2.1.2 ≤ s0 + R.slots) (kk : ax_KK p l e R s m args below meth c Q D dA ro X A M.2.2.1 c0 s0 ad0 q) : W p l e R s m args below meth c Hm locs cells slots Q (F0 m pc ls (S.map (ax_cv ad ro))) := by
  obtain ⟨hx, hb, hml, hown, hts, hnm, hA, hSt, hfr, hlo⟩ := id C
  obtain ⟨hP, hD, hS, hl, had, hle, hX, hcc, hss, hpre⟩ := id V
  have hln : len = 1 := ax_nm_len hM.2.2 (fun _ _ _ _ h => by cases h) (fun _ _ h => by cases h)
  subst hln
  have hd : decode M.2.1 pc = .ok (.dup_x1, 1) := hM.1
  simp only [ax_s1] at h
  split at h
  · obtain ⟨h1, h⟩ := ax_bif h
    simp only [Bool.and_eq_true] at h1
    cases h
    exact lv_dup_x1 hx hb hd (by rw [ax_cv_cat]; exact Nat.eq_of_beq_eq_true h1.1) (by rw [ax_cv_cat]; exact Nat.eq_of_beq_eq_true h1.2) (kk Hm locs cells slots ls ad V)
  · cases h
theorem ax_w_dup2  (C : ax_CT D dA ro X A p R s m args meth c M d) (hM : ax_PE M (pc, .dup2, len, r1, r2, r3)) (V : ax_IV D dA ro X A s M.2.2.1 c0 s0 ad0 L H Hm locs cells slots ls ad) (h : ax_s1 (pc, .dup2, len, r1, r2, r3) L S H = some q) (hc : q.2.2.2.2.1.1 ≤ c0 + R.cells) (hs : q.2.2.2.2.1.2 ≤ s0 + R.slots) (kk : ax_KK p l e R s m args below meth c Q D dA ro X A M.2.2.1 c0 s0 ad0 q) : W p l e R s m args below meth c Hm locs cells slots Q (F0 m pc ls (S.map (ax_cv ad ro))) := by
  obtain ⟨hx, hb, hml, hown, hts, hnm, hA, hSt, hfr, hlo⟩ := id C
  obtain ⟨hP, hD, hS, hl, had, hle, hX, hcc, hss, hpre⟩ := id V
  have hln : len = 1 := ax_nm_len hM.2.2 (fun _ _ _ _ h => by cases h) (fun _ _ h => by cases h)
  subst hln
  have hd : decode M.2.1 pc = .ok (.dup2, 1) := hM.1
  simp only [ax_s1] at h
  split at h
  · obtain ⟨h1, h⟩ := ax_bif h
    simp only [Bool.and_eq_true] at h1
    cases h
    exact lv_dup2_11 hx hb hd (by rw [ax_cv_cat]; exact Nat.eq_of_beq_eq_true h1.1) (by rw [ax_cv_cat]; exact Nat.eq_of_beq_eq_true h1.2) (kk Hm locs cells slots ls ad V)
  · cases h
theorem ax_w_ifCond_eq {o : Int} (C : ax_CT D dA ro X A p R s m args meth c M d) (hM : ax_PE M (pc, .ifCond .eq o, len, r1, r2, r3)) (V : ax_IV D dA ro X A s M.2.2.1 c0 s0 ad0 L H Hm locs cells slots ls ad) (h : ax_s1 (pc, .ifCond .eq o, len, r1, r2, r3) L S H = some q) (hc : q.2.2.2.2.1.1 ≤ c0 + R.cells) (hs : q.2.2.2.2.1.2 ≤ s0 + R.slots) (kk : ax_KK p l e R s m args below meth c Q D dA ro X A M.2.2.1 c0 s0 ad0 q) : W p l e R s m args below meth c Hm locs cells slots Q (F0 m pc ls (S.map (ax_cv ad ro))) := by
  obtain ⟨hx, hb, hml, hown, hts, hnm, hA, hSt, hfr, hlo⟩ := id C
  obtain ⟨hP, hD, hS, hl, had, hle, hX, hcc, hss, hpre⟩ := id V
  have hln : len = 3 := ax_nm_len hM.2.2 (fun _ _ _ _ h => by cases h) (fun _ _ h => by cases h)
  subst hln
  have hd : decode M.2.1 pc = .ok (.ifCond .eq o, 3) := hM.1
  have ht : (pc : Int) + o = (r1 : Int) := of_decide_eq_true (by have h9 := hM.2.2; simp only [ax_nm, Bool.and_eq_true] at h9; exact h9.2)
  simp only [ax_s1] at h
  split at h
  · cases h
    have hk := kk Hm locs cells slots ls ad V
    dsimp only [ax_cnd] at hk
    refine lv_if_eq hx hb hd ht (fun hq => ?_) (fun hq => ?_)
    · first | (rw [if_pos hq] at hk; exact hk) | (rw [if_neg hq] at hk; exact hk)
    · first | (rw [if_neg hq] at hk; exact hk) | (rw [if_pos hq] at hk; exact hk)
  · cases h
theorem ax_w_ifCond_ne {o : Int} (C : ax_CT D dA ro X A p R s m args meth c M d) (hM : ax_PE M (pc, .ifCond .ne o, len, r1, r2, r3)) (V : ax_IV D dA ro X A s M.2.2.1 c0 s0 ad0 L H Hm locs cells slots ls ad) (h : ax_s1 (pc, .ifCond .ne o, len, r1, r2, r3) L S H = some q) (hc : q.2.2.2.2.1.1 ≤ c0 + R.cells) (hs : q.2.2.2.2.1.2 ≤ s0 + R.slots) (kk : ax_KK p l e R s m args below meth c Q D dA ro X A M.2.2.1 c0 s0 ad0 q) : W p l e R s m args below meth c Hm locs cells slots Q (F0 m pc ls (S.map (ax_cv ad ro))) := by
  obtain ⟨hx, hb, hml, hown, hts, hnm, hA, hSt, hfr, hlo⟩ := id C
  obtain ⟨hP, hD, hS, hl, had, hle, hX, hcc, hss, hpre⟩ := id V
  have hln : len = 3 := ax_nm_len hM.2.2 (fun _ _ _ _ h => by cases h) (fun _ _ h => by cases h)
  subst hln
  have hd : decode M.2.1 pc = .ok (.ifCond .ne o, 3) := hM.1
  have ht : (pc : Int) + o = (r1 : Int) := of_decide_eq_true (by have h9 := hM.2.2; simp only [ax_nm, Bool.and_eq_true] at h9; exact h9.2)
  simp only [ax_s1] at h
  split at h
  · cases h
    have hk := kk Hm locs cells slots ls ad V
    dsimp only [ax_cnd] at hk
    refine lv_if_ne hx hb hd ht (fun hq => ?_) (fun hq => ?_)
    · first | (rw [if_pos hq] at hk; exact hk) | (rw [if_neg hq] at hk; exact hk)
    · first | (rw [if_neg hq] at hk; exact hk) | (rw [if_pos hq] at hk; exact hk)
  · cases h
theorem ax_w_ifCond_lt {o : Int} (C : ax_CT D dA ro X A p R s m args meth c M d) (hM : ax_PE M (pc, .ifCond .lt o, len, r1, r2, r3)) (V : ax_IV D dA ro X A s M.2.2.1 c0 s0 ad0 L H Hm locs cells slots ls ad) (h : ax_s1 (pc, .ifCond .lt o, len, r1, r2, r3) L S H = some q) (hc : q.2.2.2.2.1.1 ≤ c0 + R.cells) (hs : q.2.2.2.2.1.2 ≤ s0 + R.slots) (kk : ax_KK p l e R s m args below meth c Q D dA ro X A M.2.2.1 c0 s0 ad0 q) : W p l e R s m args below meth c Hm locs cells slots Q (F0 m pc ls (S.map (ax_cv ad ro))) := by
  obtain ⟨hx, hb, hml, hown, hts, hnm, hA, hSt, hfr, hlo⟩ := id C
  obtain ⟨hP, hD, hS, hl, had, hle, hX, hcc, hss, hpre⟩ := id V
  have hln : len = 3 := ax_nm_len hM.2.2 (fun _ _ _ _ h => by cases h) (fun _ _ h => by cases h)
  subst hln
  have hd : decode M.2.1 pc = .ok (.ifCond .lt o, 3) := hM.1
  have ht : (pc : Int) + o = (r1 : Int) := of_decide_eq_true (by have h9 := hM.2.2; simp only [ax_nm, Bool.and_eq_true] at h9; exact h9.2)
  simp only [ax_s1] at h
  split at h
  · cases h
    have hk := kk Hm locs cells slots ls ad V
    dsimp only [ax_cnd] at hk
    refine lv_if_lt hx hb hd ht (fun hq => ?_) (fun hq => ?_)
    · first | (rw [if_pos hq] at hk; exact hk) | (rw [if_neg hq] at hk; exact hk)
    · first | (rw [if_neg hq] at hk; exact hk) | (rw [if_pos hq] at hk; exact hk)
  · cases h
theorem ax_w_ifCond_ge {o : Int} (C : ax_CT D dA ro X A p R s m args meth c M d) (hM : ax_PE M (pc, .ifCond .ge o, len, r1, r2, r3)) (V : ax_IV D dA ro X A s M.2.2.1 c0 s0 ad0 L H Hm locs cells slots ls ad) (h : ax_s1 (pc, .ifCond .ge o, len, r1, r2, r3) L S H = some q) (hc : q.2.2.2.2.1.1 ≤ c0 + R.cells) (hs : q.2.2.2.2.1.2 ≤ s0 + R.slots) (kk : ax_KK p l e R s m args below meth c Q D dA ro X A M.2.2.1 c0 s0 ad0 q) : W p l e R s m args below meth c Hm locs cells slots Q (F0 m pc ls (S.map (ax_cv ad ro))) := by
  obtain ⟨hx, hb, hml, hown, hts, hnm, hA, hSt, hfr, hlo⟩ := id C
  obtain ⟨hP, hD, hS, hl, had, hle, hX, hcc, hss, hpre⟩ := id V
  have hln : len = 3 := ax_nm_len hM.2.2 (fun _ _ _ _ h => by cases h) (fun _ _ h => by cases h)
  subst hln
  have hd : decode M.2.1 pc = .ok (.ifCond .ge o, 3) := hM.1
  have ht : (pc : Int) + o = (r1 : Int) := of_decide_eq_true (by have h9 := hM.2.2; simp only [ax_nm, Bool.and_eq_true] at h9; exact h9.2)
  simp only [ax_s1] at h
  split at h
  · cases h
    have hk := kk Hm locs cells slots ls ad V
    dsimp only [ax_cnd] at hk
    refine lv_if_ge hx hb hd ht (fun hq => ?_) (fun hq => ?_)
    · first | (rw [if_pos hq] at hk; exact hk) | (rw [if_neg hq] at hk; exact hk)
    · first | (rw [if_neg hq] at hk; exact hk) | (rw [if_pos hq] at hk; exact hk)
  · cases h
theorem ax_w_ifCond_gt {o : Int} (C : ax_CT D dA ro X A p R s m args meth c M d) (hM : ax_PE M (pc, .ifCond .gt o, len, r1, r2, r3)) (V : ax_IV D dA ro X A s M.2.2.1 c0 s0 ad0 L H Hm locs cells slots ls ad) (h : ax_s1 (pc, .ifCond .gt o, len, r1, r2, r3) L S H = some q) (hc : q.2.2.2.2.1.1 ≤ c0 + R.cells) (hs : q.2.2.2.2.1.2 ≤ s0 + R.slots) (kk : ax_KK p l e R s m args below meth c Q D dA ro X A M.2.2.1 c0 s0 ad0 q) : W p l e R s m args below meth c Hm locs cells slots Q (F0 m pc ls (S.map (ax_cv ad ro))) := by
  obtain ⟨hx, hb, hml, hown, hts, hnm, hA, hSt, hfr, hlo⟩ := id C
  obtain ⟨hP, hD, hS, hl, had, hle, hX, hcc, hss, hpre⟩ := id V
  have hln : len = 3 := ax_nm_len hM.2.2 (fun _ _ _ _ h => by cases h) (fun _ _ h => by cases h)
  subst hln
  have hd : decode M.2.1 pc = .ok (.ifCond .gt o, 3) := hM.1
  have ht : (pc : Int) + o = (r1 : Int) := of_decide_eq_true (by have h9 := hM.2.2; simp only [ax_nm, Bool.and_eq_true] at h9; exact h9.2)
  simp only [ax_s1] at h
  split at h
  · cases h
    have hk := kk Hm locs cells slots ls ad V
    dsimp only [ax_cnd] at hk
    refine lv_if_gt hx hb hd ht (fun hq => ?_) (fun hq => ?_)
    · first | (rw [if_pos hq] at hk; exact hk) | (rw [if_neg hq] at hk; exact hk)
    · first | (rw [if_neg hq] at hk; exact hk) | (rw [if_pos hq] at hk; exact hk)
  · cases h
theorem ax_w_ifCond_le {o : Int} (C : ax_CT D dA ro X A p R s m args meth c M d) (hM : ax_PE M (pc, .ifCond .le o, len, r1, r2, r3)) (V : ax_IV D dA ro X A s M.2.2.1 c0 s0 ad0 L H Hm locs cells slots ls ad) (h : ax_s1 (pc, .ifCond .le o, len, r1, r2, r3) L S H = some q) (hc : q.2.2.2.2.1.1 ≤ c0 + R.cells) (hs : q.2.2.2.2.1.2 ≤ s0 + R.slots) (kk : ax_KK p l e R s m args below meth c Q D dA ro X A M.2.2.1 c0 s0 ad0 q) : W p l e R s m args below meth c Hm locs cells slots Q (F0 m pc ls (S.map (ax_cv ad ro))) := by
  obtain ⟨hx, hb, hml, hown, hts, hnm, hA, hSt, hfr, hlo⟩ := id C
  obtain ⟨hP, hD, hS, hl, had, hle, hX, hcc, hss, hpre⟩ := id V
  have hln : len = 3 := ax_nm_len hM.2.2 (fun _ _ _ _ h => by cases h) (fun _ _ h => by cases h)
  subst hln
  have hd : decode M.2.1 pc = .ok (.ifCond .le o, 3) := hM.1
  have ht : (pc : Int) + o = (r1 : Int) := of_decide_eq_true (by have h9 := hM.2.2; simp only [ax_nm, Bool.and_eq_true] at h9; exact h9.2)
  simp only [ax_s1] at h
  split at h
  · cases h
    have hk := kk Hm locs cells slots ls ad V
    dsimp only [ax_cnd] at hk
    refine lv_if_le hx hb hd ht (fun hq => ?_) (fun hq => ?_)
    · first | (rw [if_pos hq] at hk; exact hk) | (rw [if_neg hq] at hk; exact hk)
    · first | (rw [if_neg hq] at hk; exact hk) | (rw [if_pos hq] at hk; exact hk)
  · cases h
theorem ax_w_if_icmp_eq {o : Int} (C : ax_CT D dA ro X A p R s m args meth c M d) (hM : ax_PE M (pc, .if_icmp .eq o, len, r1, r2, r3)) (V : ax_IV D dA ro X A s M.2.2.1 c0 s0 ad0 L H Hm locs cells slots ls ad) (h : ax_s1 (pc, .if_icmp .eq o, len, r1, r2, r3) L S H = some q) (hc : q.2.2.2.2.1.1 ≤ c0 + R.cells) (hs : q.2.2.2.2.1.2 ≤ s0 + R.slots) (kk : ax_KK p l e R s m args below meth c Q D dA ro X A M.2.2.1 c0 s0 ad0 q) : W p l e R s m args below meth c Hm locs cells slots Q (F0 m pc ls (S.map (ax_cv ad ro))) := by
  obtain ⟨hx, hb, hml, hown, hts, hnm, hA, hSt, hfr, hlo⟩ := id C
  obtain ⟨hP, hD, hS, hl, had, hle, hX, hcc, hss, hpre⟩ := id V
  have hln : len = 3 := ax_nm_len hM.2.2 (fun _ _ _ _ h => by cases h) (fun _ _ h => by cases h)
  subst hln
  have hd : decode M.2.1 pc = .ok (.if_icmp .eq o, 3) := hM.1
  have ht : (pc : Int) + o = (r1 : Int) := of_decide_eq_true (by have h9 := hM.2.2; simp only [ax_nm, Bool.and_eq_true] at h9; exact h9.2)
  simp only [ax_s1] at h
  split at h
  · cases h
    have hk := kk Hm locs cells slots ls ad V
    dsimp only [ax_cnd] at hk
    refine lv_icmp_eq hx hb hd ht (fun hq => ?_) (fun hq => ?_)
    · first | (rw [if_pos hq] at hk; exact hk) | (rw [if_neg hq] at hk; exact hk)
    · first | (rw [if_neg hq] at hk; exact hk) | (rw [if_pos hq] at hk; exact hk)
  · cases h
theorem ax_w_if_icmp_ne {o : Int} (C : ax_CT D dA ro X A p R s m args meth c M d) (hM : ax_PE M (pc, .if_icmp .ne o, len, r1, r2, r3)) (V : ax_IV D dA ro X A s M.2.2.1 c0 s0 ad0 L H Hm locs cells slots ls ad) (h : ax_s1 (pc, .if_icmp .ne o, len, r1, r2, r3) L S H = some q) (hc : q.2.2.2.2.1.1 ≤ c0 + R.cells) (hs : q.2.2.2.2.1.2 ≤ s0 + R.slots) (kk : ax_KK p l e R s m args below meth c Q D dA ro X A M.2.2.1 c0 s0 ad0 q) : W p l e R s m args below meth c Hm locs cells slots Q (F0 m pc ls (S.map (ax_cv ad ro))) := by
  obtain ⟨hx, hb, hml, hown, hts, hnm, hA, hSt, hfr, hlo⟩ := id C
  obtain ⟨hP, hD, hS, hl, had, hle, hX, hcc, hss, hpre⟩ := id V
  have hln : len = 3 := ax_nm_len hM.2.2 (fun _ _ _ _ h => by cases h) (fun _ _ h => by cases h)
  subst hln
  have hd : decode M.2.1 pc = .ok (.if_icmp .ne o, 3) := hM.1
  have ht : (pc : Int) + o = (r1 : Int) := of_decide_eq_true (by have h9 := hM.2.2; simp only [ax_nm, Bool.and_eq_true] at h9; exact h9.2)
  simp only [ax_s1] at h
  split at h
  · cases h
    have hk := kk Hm locs cells slots ls ad V
    dsimp only [ax_cnd] at hk
    refine lv_icmp_ne hx hb hd ht (fun hq => ?_) (fun hq => ?_)
    · first | (rw [if_pos hq] at hk; exact hk) | (rw [if_neg hq] at hk; exact hk)
    · first | (rw [if_neg hq] at hk; exact hk) | (rw [if_pos hq] at hk; exact hk)
  · cases h
theorem ax_w_if_icmp_lt {o : Int} (C : ax_CT D dA ro X A p R s m args meth c M d) (hM : ax_PE M (pc, .if_icmp .lt o, len, r1, r2, r3)) (V : ax_IV D dA ro X A s M.2.2.1 c0 s0 ad0 L H Hm locs cells slots ls ad) (h : ax_s1 (pc, .if_icmp .lt o, len, r1, r2, r3) L S H = some q) (hc : q.2.2.2.2.1.1 ≤ c0 + R.cells) (hs : q.2.2.2.2.1.2 ≤ s0 + R.slots) (kk : ax_KK p l e R s m args below meth c Q D dA ro X A M.2.2.1 c0 s0 ad0 q) : W p l e R s m args below meth c Hm locs cells slots Q (F0 m pc ls (S.map (ax_cv ad ro))) := by
  obtain ⟨hx, hb, hml, hown, hts, hnm, hA, hSt, hfr, hlo⟩ := id C
  obtain ⟨hP, hD, hS, hl, had, hle, hX, hcc, hss, hpre⟩ := id V
  have hln : len = 3 := ax_nm_len hM.2.2 (fun _ _ _ _ h => by cases h) (fun _ _ h => by cases h)
  subst hln
  have hd : decode M.2.1 pc = .ok (.if_icmp .lt o, 3) := hM.1
  have ht : (pc : Int) + o = (r1 : Int) := of_decide_eq_true (by have h9 := hM.2.2; simp only [ax_nm, Bool.and_eq_true] at h9; exact h9.2)
  simp only [ax_s1] at h
  split at h
  · cases h
    have hk := kk Hm locs cells slots ls ad V
    dsimp only [ax_cnd] at hk
    refine lv_icmp_lt hx hb hd ht (fun hq => ?_) (fun hq => ?_)
    · first | (rw [if_pos hq] at hk; exact hk) | (rw [if_neg hq] at hk; exact hk)
    · first | (rw [if_neg hq] at hk; exact hk) | (rw [if_pos hq] at hk; exact hk)
  · cases h
theorem ax_w_if_icmp_ge {o : Int} (C : ax_CT D dA ro X A p R s m args meth c M d) (hM : ax_PE M (pc, .if_icmp .ge o, len, r1, r2, r3)) (V : ax_IV D dA ro X A s M.2.2.1 c0 s0 ad0 L H Hm locs cells slots ls ad) (h : ax_s1 (pc, .if_icmp .ge o, len, r1, r2, r3) L S H = some q) (hc : q.2.2.2.2.1.1 ≤ c0 + R.cells) (hs : q.2.2.2.2.1.2 ≤ s0 + R.slots) (kk : ax_KK p l e R s m args below meth c Q D dA ro X A M.2.2.1 c0 s0 ad0 q) : W p l e R s m args below meth c Hm locs cells slots Q (F0 m pc ls (S.map (ax_cv ad ro))) := by
  obtain ⟨hx, hb, hml, hown, hts, hnm, hA, hSt, hfr, hlo⟩ := id C
  obtain ⟨hP, hD, hS, hl, had, hle, hX, hcc, hss, hpre⟩ := id V
  have hln : len = 3 := ax_nm_len hM.2.2 (fun _ _ _ _ h => by cases h) (fun _ _ h => by cases h)
  subst hln
  have hd : decode M.2.1 pc = .ok (.if_icmp .ge o, 3) := hM.1
  have ht : (pc : Int) + o = (r1 : Int) := of_decide_eq_true (by have h9 := hM.2.2; simp only [ax_nm, Bool.and_eq_true] at h9; exact h9.2)
  simp only [ax_s1] at h
  split at h
  · cases h
    have hk := kk Hm locs cells slots ls ad V
    dsimp only [ax_cnd] at hk
    refine lv_icmp_ge hx hb hd ht (fun hq => ?_) (fun hq => ?_)
    · first | (rw [if_pos hq] at hk; exact hk) | (rw [if_neg hq] at hk; exact hk)
    · first | (rw [if_neg hq] at hk; exact hk) | (rw [if_pos hq] at hk; exact hk)
  · cases h
theorem ax_w_if_icmp_gt {o : Int} (C : ax_CT D dA ro X A p R s m args meth c M d) (hM : ax_PE M (pc, .if_icmp .gt o, len, r1, r2, r3)) (V : ax_IV D dA ro X A s M.2.2.1 c0 s0 ad0 L H Hm locs cells slots ls ad) (h : ax_s1 (pc, .if_icmp .gt o, len, r1, r2, r3) L S H = some q) (hc : q.2.2.2.2.1.1 ≤ c0 + R.cells) (hs : q.2.2.2.2.1.2 ≤ s0 + R.slots) (kk : ax_KK p l e R s m args below meth c Q D dA ro X A M.2.2.1 c0 s0 ad0 q) : W p l e R s m args below meth c Hm locs cells slots Q (F0 m pc ls (S.map (ax_cv ad ro))) := by
  obtain ⟨hx, hb, hml, hown, hts, hnm, hA, hSt, hfr, hlo⟩ := id C
  obtain ⟨hP, hD, hS, hl, had, hle, hX, hcc, hss, hpre⟩ := id V
  have hln : len = 3 := ax_nm_len hM.2.2 (fun _ _ _ _ h => by cases h) (fun _ _ h => by cases h)
  subst hln
  have hd : decode M.2.1 pc = .ok (.if_icmp .gt o, 3) := hM.1
  have ht : (pc : Int) + o = (r1 : Int) := of_decide_eq_true (by have h9 := hM.2.2; simp only [ax_nm, Bool.and_eq_true] at h9; exact h9.2)
  simp only [ax_s1] at h
  split at h
  · cases h
    have hk := kk Hm locs cells slots ls ad V
    dsimp only [ax_cnd] at hk
    refine lv_icmp_gt hx hb hd ht (fun hq => ?_) (fun hq => ?_)
    · first | (rw [if_pos hq] at hk; exact hk) | (rw [if_neg hq] at hk; exact hk)
    · first | (rw [if_neg hq] at hk; exact hk) | (rw [if_pos hq] at hk; exact hk)
  · cases h
theorem ax_w_if_icmp_le {o : Int} (C : ax_CT D dA ro X A p R s m args meth c M d) (hM : ax_PE M (pc, .if_icmp .le o, len, r1, r2, r3)) (V : ax_IV D dA ro X A s M.2.2.1 c0 s0 ad0 L H Hm locs cells slots ls ad) (h : ax_s1 (pc, .if_icmp .le o, len, r1, r2, r3) L S H = some q) (hc : q.2.2.2.2.1.1 ≤ c0 + R.cells) (hs : q.2.2.2.2.1.2 ≤ s0 + R.slots) (kk : ax_KK p l e R s m args below meth c Q D dA ro X A M.2.2.1 c0 s0 ad0 q) : W p l e R s m args below meth c Hm locs cells slots Q (F0 m pc ls (S.map (ax_cv ad ro))) := by
  obtain ⟨hx, hb, hml, hown, hts, hnm, hA, hSt, hfr, hlo⟩ := id C
  obtain ⟨hP, hD, hS, hl, had, hle, hX, hcc, hss, hpre⟩ := id V
  have hln : len = 3 := ax_nm_len hM.2.2 (fun _ _ _ _ h => by cases h) (fun _ _ h => by cases h)
  subst hln
  have hd : decode M.2.1 pc = .ok (.if_icmp .le o, 3) := hM.1
  have ht : (pc : Int) + o = (r1 : Int) := of_decide_eq_true (by have h9 := hM.2.2; simp only [ax_nm, Bool.and_eq_true] at h9; exact h9.2)
  simp only [ax_s1] at h
  split at h
  · cases h
    have hk := kk Hm locs cells slots ls ad V
    dsimp only [ax_cnd] at hk
    refine lv_icmp_le hx hb hd ht (fun hq => ?_) (fun hq => ?_)
    · first | (rw [if_pos hq] at hk; exact hk) | (rw [if_neg hq] at hk; exact hk)
    · first | (rw [if_neg hq] at hk; exact hk) | (rw [if_pos hq] at hk; exact hk)
  · cases h
theorem ax_w_goto {o : Int} (C : ax_CT D dA ro X A p R s m args meth c M d) (hM : ax_PE M (pc, .goto o, len, r1, r2, r3)) (V : ax_IV D dA ro X A s M.2.2.1 c0 s0 ad0 L H Hm locs cells slots ls ad) (h : ax_s1 (pc, .goto o, len, r1, r2, r3) L S H = some q) (hc : q.2.2.2.2.1.1 ≤ c0 + R.cells) (hs : q.2.2.2.2.1.2 ≤ s0 + R.slots) (kk : ax_KK p l e R s m args below meth c Q D dA ro X A M.2.2.1 c0 s0 ad0 q) : W p l e R s m args below meth c Hm locs cells slots Q (F0 m pc ls (S.map (ax_cv ad ro))) := by
  obtain ⟨hx, hb, hml, hown, hts, hnm, hA, hSt, hfr, hlo⟩ := id C
  obtain ⟨hP, hD, hS, hl, had, hle, hX, hcc, hss, hpre⟩ := id V
  have hln : len = 3 := ax_nm_len hM.2.2 (fun _ _ _ _ h => by cases h) (fun _ _ h => by cases h)
  subst hln
  have hd : decode M.2.1 pc = .ok (.goto o, 3) := hM.1
  have ht : (pc : Int) + o = (r1 : Int) := of_decide_eq_true (by have h9 := hM.2.2; simp only [ax_nm, Bool.and_eq_true] at h9; exact h9.2)
  cases h
  exact lv_goto hx hb hd ht (kk Hm locs cells slots ls ad V)
theorem ax_w_tableswitch {dd lo hi : Int} {offs : Array Int} (C : ax_CT D dA ro X A p R s m args meth c M d) (hM : ax_PE M (pc, .tableswitch dd lo hi offs, len, r1, r2, r3)) (V : ax_IV D dA ro X A s M.2.2.1 c0 s0 ad0 L H Hm locs cells slots ls ad) (h : ax_s1 (pc, .tableswitch dd lo hi offs, len, r1, r2, r3) L S H = some q) (hc : q.2.2.2.2.1.1 ≤ c0 + R.cells) (hs : q.2.2.2.2.1.2 ≤ s0 + R.slots) (kk : ax_KK p l e R s m args below meth c Q D dA ro X A M.2.2.1 c0 s0 ad0 q) : W p l e R s m args below meth c Hm locs cells slots Q (F0 m pc ls (S.map (ax_cv ad ro))) := by
  obtain ⟨hx, hb, hml, hown, hts, hnm, hA, hSt, hfr, hlo⟩ := id C
  obtain ⟨hP, hD, hS, hl, had, hle, hX, hcc, hss, hpre⟩ := id V
  have hd : decode M.2.1 pc = .ok (.tableswitch dd lo hi offs, len) := hM.1
  have h9 := hM.2.2
  simp only [ax_nm, Bool.and_eq_true] at h9
  have tg : ∀ o : Int, 0 ≤ (pc : Int) + o → (pc : Int) + o = ((ax_tgt pc o : Nat) : Int) := fun o ho => by unfold ax_tgt; omega
  simp only [ax_s1] at h
  split at h
  · split at h
    · rename_i hq
      cases h
      exact lv_tableOut hx hb hd hq (tg _ (of_decide_eq_true h9.1)) (kk Hm locs cells slots ls ad V)
    · rename_i hq
      split at h
      · rename_i o ho
        cases h
        exact lv_tableIn hx hb hd (fun z => hq (Or.inl z)) (fun z => hq (Or.inr z)) ho (tg _ (of_decide_eq_true (List.all_eq_true.mp h9.2 o (by
          obtain ⟨hi9, he9⟩ := Array.getElem?_eq_some_iff.mp ho
          rw [← he9]; exact Array.mem_toList_iff.mpr (Array.getElem_mem hi9))))) (kk Hm locs cells slots ls ad V)
      · cases h
  · cases h
theorem ax_w_lookupswitch {dd : Int} {ps : Array (Int × Int)} (C : ax_CT D dA ro X A p R s m args meth c M d) (hM : ax_PE M (pc, .lookupswitch dd ps, len, r1, r2, r3)) (V : ax_IV D dA ro X A s M.2.2.1 c0 s0 ad0 L H Hm locs cells slots ls ad) (h : ax_s1 (pc, .lookupswitch dd ps, len, r1, r2, r3) L S H = some q) (hc : q.2.2.2.2.1.1 ≤ c0 + R.cells) (hs : q.2.2.2.2.1.2 ≤ s0 + R.slots) (kk : ax_KK p l e R s m args below meth c Q D dA ro X A M.2.2.1 c0 s0 ad0 q) : W p l e R s m args below meth c Hm locs cells slots Q (F0 m pc ls (S.map (ax_cv ad ro))) := by
  obtain ⟨hx, hb, hml, hown, hts, hnm, hA, hSt, hfr, hlo⟩ := id C
  obtain ⟨hP, hD, hS, hl, had, hle, hX, hcc, hss, hpre⟩ := id V
  have hd : decode M.2.1 pc = .ok (.lookupswitch dd ps, len) := hM.1
  have h9 := hM.2.2
  simp only [ax_nm, Bool.and_eq_true] at h9
  have tg : ∀ (x : Int) (l : List (Int × Int)), (l.all (fun o => decide (0 ≤ (pc : Int) + o.2))) = true → 0 ≤ (pc : Int) + Op.lookupswitch.offset l dd x := by
    intro x l
    induction l with
    | nil => intro _; exact of_decide_eq_true h9.2.1
    | cons y l ih =>
      intro hl9
      simp only [List.all_cons, Bool.and_eq_true] at hl9
      obtain ⟨ya, yo⟩ := y
      rw [Op.lookupswitch.offset_cons]
      split
      · exact of_decide_eq_true hl9.1
      · exact ih hl9.2
  simp only [ax_s1] at h
  split at h
  · rename_i x r
    cases h
    exact lv_lookup hx hb hd h9.1 rfl (by have := tg x.toInt ps.toList h9.2.2; unfold ax_tgt; omega) (kk Hm locs cells slots ls ad V)
  · cases h
theorem ax_w_getfield {i : Nat} (C : ax_CT D dA ro X A p R s m args meth c M d) (hM : ax_PE M (pc, .getfield i, len, r1, r2, r3)) (V : ax_IV D dA ro X A s M.2.2.1 c0 s0 ad0 L H Hm locs cells slots ls ad) (h : ax_s1 (pc, .getfield i, len, r1, r2, r3) L S H = some q) (hc : q.2.2.2.2.1.1 ≤ c0 + R.cells) (hs : q.2.2.2.2.1.2 ≤ s0 + R.slots) (kk : ax_KK p l e R s m args below meth c Q D dA ro X A M.2.2.1 c0 s0 ad0 q) : W p l e R s m args below meth c Hm locs cells slots Q (F0 m pc ls (S.map (ax_cv ad ro))) := by
  obtain ⟨hx, hb, hml, hown, hts, hnm, hA, hSt, hfr, hlo⟩ := id C
  obtain ⟨hP, hD, hS, hl, had, hle, hX, hcc, hss, hpre⟩ := id V
  have hln : len = 3 := ax_nm_len hM.2.2 (fun _ _ _ _ h => by cases h) (fun _ _ h => by cases h)
  subst hln
  have hd : decode M.2.1 pc = .ok (.getfield i, 3) := hM.1
  simp only [ax_s1] at h
  split at h
  · rename_i a r
    split at h
    · rename_i fs ho
      split at h
      · rename_i v hv
        cases h
        obtain ⟨ha, he⟩ := ax_obj_inv ho
        obtain ⟨qc, hq, h1, hin, -⟩ := ax_cls_of (by have h9 := hM.2.2; simp only [ax_nm, Bool.and_eq_true] at h9; exact h9.2)
        have hw : (Cond.fieldLink M.1.cls i (qc.2.1 r2).1 (qc.2.1 r2).2.1 (qc.2.1 r2).2.2.1).before args s = true := hts _ (hM.2.1 _ (by show _ ∈ ax_wf M.1.cls i r1 r2; unfold ax_wf; rw [hq]; exact List.mem_cons_self))
        have hat := ax_cw_at (dA := dA) (ro := ro) had hle he
        exact va_get (C := qc.1) (T := qc.2.1) (N := qc.2.2) (ref := (qc.2.1 r2).1) hx hb hts hin hown hSt.1 hP a hat hq r2 h1 hw (fun _ h => h) (by rw [List.getElem?_map, hv]; rfl) hd (kk Hm locs cells slots ls ad V)
      · cases h
    · cases h
  · cases h
theorem ax_w_putfield {i : Nat} (C : ax_CT D dA ro X A p R s m args meth c M d) (hM : ax_PE M (pc, .putfield i, len, r1, r2, r3)) (V : ax_IV D dA ro X A s M.2.2.1 c0 s0 ad0 L H Hm locs cells slots ls ad) (h : ax_s1 (pc, .putfield i, len, r1, r2, r3) L S H = some q) (hc : q.2.2.2.2.1.1 ≤ c0 + R.cells) (hs : q.2.2.2.2.1.2 ≤ s0 + R.slots) (kk : ax_KK p l e R s m args below meth c Q D dA ro X A M.2.2.1 c0 s0 ad0 q) : W p l e R s m args below meth c Hm locs cells slots Q (F0 m pc ls (S.map (ax_cv ad ro))) := by
  obtain ⟨hx, hb, hml, hown, hts, hnm, hA, hSt, hfr, hlo⟩ := id C
  obtain ⟨hP, hD, hS, hl, had, hle, hX, hcc, hss, hpre⟩ := id V
  have hln : len = 3 := ax_nm_len hM.2.2 (fun _ _ _ _ h => by cases h) (fun _ _ h => by cases h)
  subst hln
  have hd : decode M.2.1 pc = .ok (.putfield i, 3) := hM.1
  simp only [ax_s1] at h
  split at h
  · rename_i v a r
    split at h
    · rename_i fs ho
      obtain ⟨hlt, h⟩ := ax_bif h
      have hlt : r2 < fs.length := Nat.le_of_ble_eq_true hlt
      obtain ⟨ha, he⟩ := ax_obj_inv ho
      have h9 := hM.2.2
      simp only [ax_nm, Bool.and_eq_true] at h9
      obtain ⟨qc, hq, h1, hin, ty, hty, hnms⟩ := ax_cls_of (r1 := r1) (r2 := r2) (by have h9 := h9.2; split at h9 <;> first | (rename_i hz; rw [hz]; simp only [Bool.and_eq_true] at h9; exact h9.1) | cases h9)
      have hw : (Cond.fieldLink M.1.cls i (qc.2.1 r2).1 (qc.2.1 r2).2.1 (qc.2.1 r2).2.2.1).before args s = true := hts _ (hM.2.1 _ (by show _ ∈ ax_wf M.1.cls i r1 r2; unfold ax_wf; rw [hq]; exact List.mem_cons_self))
      have hat := ax_cw_at (dA := dA) (ro := ro) had hle he
      have h9 := h9.2
      rw [hq] at h9
      simp only [hty r2 h1, Bool.and_eq_true] at h9
      have key : ∀ v2 : Value, q = (pc + 3, L, r, ax_put H a (.inr (r1, fs.set r2 v2))) → narrow (ty r2) (ax_cv ad ro v2) = ax_cv ad ro v2 → fits (ty r2) (ax_cv ad ro v2) = true → W p l e R s m args below meth c Hm locs cells slots Q (F0 m pc ls (ax_cv ad ro v2 :: .ref (ax_ca ad ro a) :: r.map (ax_cv ad ro))) := by
        intro v2 hq2 hn hf
        subst hq2
        have hl2 : r2 < (fs.map (ax_cv ad ro)).length := by rw [List.length_map]; exact hlt
        have hset : (fs.map (ax_cv ad ro)).set r2 (ax_cv ad ro v2) = (fs.set r2 v2).map (ax_cv ad ro) := by rw [List.map_set]
        cases hfin : (qc.2.1 r2).2.2.2 with
        | false => exact va_put (C := qc.1) (T := qc.2.1) (N := qc.2.2) (ref := (qc.2.1 r2).1) hx hb hts hin ty hty hnms hown hSt.1 hP hD hS a hat hq r2 h1 hw (fun _ h => h) hfin (hty r2 h1) hn hf hl2 hd (fun H1 locs1 p1 d1 s1 => kk H1 locs1 cells slots ls ad (ax_iv_put V he (by rw [hset] at p1; exact p1) (by rw [hset] at d1; exact d1) s1))
        | true =>
          have h10 := h9.2.2
          rw [hfin] at h10
          simp only [Bool.not_true, Bool.false_or, Bool.and_eq_true] at h10
          exact va_putF (C := qc.1) (T := qc.2.1) (N := qc.2.2) (ref := (qc.2.1 r2).1) hx hb hts hin ty hty hnms hown hSt.1 hP hD hS a hat hq r2 h1 hw (fun _ h => h) hfin (hnm (of_decide_eq_true h10.1)) (of_decide_eq_true h10.2) (hty r2 h1) hn hf hl2 hd (fun H1 locs1 p1 d1 s1 => kk H1 locs1 cells slots ls ad (ax_iv_put V he (by rw [hset] at p1; exact p1) (by rw [hset] at d1; exact d1) s1))
      split at h
      · rename_i x hz h13
        have ht9 : ty r2 = .int := by
          have h11 := h9.2.1
          rw [hz] at h11
          split at h11 <;> first | (rename_i e9; first | exact e9 | exact Option.some.inj e9) | cases h11
        cases h
        exact key (.int x) rfl (by rw [ht9]; rfl) (by rw [ht9]; rfl)
      · rename_i x hz h13
        have ht9 : ty r2 = .boolean := by
          have h11 := h9.2.1
          rw [hz] at h11
          split at h11 <;> first | (rename_i e9; first | exact e9 | exact Option.some.inj e9) | cases h11
        split at h
        · rename_i hb9
          cases h
          exact key (.int x) rfl (by rw [ht9]; rcases hb9 with rfl | rfl <;> rfl) (by rw [ht9]; rcases hb9 with rfl | rfl <;> rfl)
        · cases h
      · rename_i x hz h13
        have ht9 : (∃ z, ty r2 = .object z) ∨ ∃ z, ty r2 = .array z := by
          have h11 := h9.2.1
          rw [hz] at h11
          split at h11 <;> first | (rename_i e9; first | exact Or.inl ⟨_, e9⟩ | exact Or.inr ⟨_, e9⟩ | exact Or.inl ⟨_, Option.some.inj e9⟩ | exact Or.inr ⟨_, Option.some.inj e9⟩) | cases h11
        cases h
        refine key (.ref x) rfl ?_ ?_
        · rcases ht9 with ⟨z, e9⟩ | ⟨z, e9⟩ <;> (rw [e9]; rfl)
        · rcases ht9 with ⟨z, e9⟩ | ⟨z, e9⟩ <;> (rw [e9]; rfl)
      · cases h
    · cases h
  · cases h
end AXT
