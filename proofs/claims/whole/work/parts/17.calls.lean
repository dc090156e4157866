/-! The call instructions -/
theorem ax_obj_code : Cond.code Lib.objectInit ⟨#[0xb1]⟩ 1 none ∈ lw_g := lw_g_of (List.mem_of_getElem? (i := 105) (by decide +kernel)) rfl
theorem ax_obj_inst : Cond.instanceMethod Lib.objectInit ∈ lw_g := lw_g_of (List.mem_of_getElem? (i := 104) (by decide +kernel)) rfl
theorem ax_cal_inv {r1 r2 : Nat} {sp : Bool} (h : ax_cal r1 r2 sp = true) : ∃ M', ax_mt[r1]? = some M' ∧ M'.1.cls ≠ "BargesByBreathLaw" ∧ M'.1.cls ≠ "java/lang/Math" ∧ (M'.1.cls ≠ "java/lang/invoke/MethodHandle" ∧ M'.1.cls ≠ "java/lang/invoke/VarHandle" ∧ (parseMethodDescriptor M'.1.desc).map (fun d => d.parameters.length) = some (r2 % 100)) ∧ r2 / 100 = M'.2.2.1 ∧ (decide (M'.1.name = "<init>") == sp) = true := by
  unfold ax_cal at h
  split at h
  · rename_i M' hM'
    simp only [Bool.and_eq_true, decide_eq_true_eq] at h
    exact ⟨M', hM', h.1, h.2.1, ⟨h.2.2.1, h.2.2.2.1, h.2.2.2.2.1⟩, Nat.eq_of_beq_eq_true h.2.2.2.2.2.1, h.2.2.2.2.2.2⟩
  · cases h
section AXD
variable {p : Program} {l : Launch} {e : Env} {R : Room} {s : State} {m : MethodId} {args : Array Value} {below : List Frame} {meth : Method} {c : Code} {Q : State → Prop}
variable {ad0 : List Nat} {D : va_G} {dA : FieldType → ClassId} {ro : Nat → Nat} {X : Nat × (Nat → Int32)} {A : Nat → Prop} {M : ax_M} {d c0 s0 : Nat}
variable {pc len r1 r2 r3 : Nat} {L : ax_L} {S : List Value} {H : ax_H} {Hm : Heap} {locs : List Loc} {cells slots : Nat} {ls : Array Slot} {ad : List Nat} {q : ax_S}
theorem ax_wid_cv {r : List Value} (h : Nat.ble (ax_wid r) 8 = true) : ((r.map (ax_cv ad ro)).map fun v => v.category).sum ≤ 8 := by
  have h1 : ax_wid r ≤ 8 := Nat.le_of_ble_eq_true h
  have h2 : (r.map (ax_cv ad ro)).map (fun v => v.category) = r.map (fun v => v.category) := by
    rw [List.map_map]
    exact List.map_congr_left fun v _ => ax_cv_cat ad ro v
  rw [h2]; exact h1
theorem ax_room {H' : ax_H} (V : ax_IV D dA ro X A s M.2.2.1 c0 s0 ad0 L H Hm locs cells slots ls ad) (hc : H'.2.1.1 ≤ c0 + R.cells) (hs : H'.2.1.2 ≤ s0 + R.slots) (hl : ax_le H H') : cells + (H'.2.1.1 - H.2.1.1) ≤ R.cells ∧ slots + (H'.2.1.2 - H.2.1.2) ≤ R.slots := by
  obtain ⟨hP, hD, hS, hl9, had, hle, hX, hcc, hss, hpre⟩ := V
  have h1 : H.2.1.1 ≤ H'.2.1.1 := hl.1
  have h2 : H.2.1.2 ≤ H'.2.1.2 := hl.2
  omega
theorem ax_w_special {i : Nat} (IH : ax_Snd l d) (C : ax_CT D dA ro X A p R s m args meth c M (d + 1)) (hM : ax_PE M (pc, .invokespecial i, len, r1, r2, r3)) (V : ax_IV D dA ro X A s M.2.2.1 c0 s0 ad0 L H Hm locs cells slots ls ad) (h : ax_call (ev d) (pc, .invokespecial i, len, r1, r2, r3) L S H = some q) (hc : q.2.2.2.2.1.1 ≤ c0 + R.cells) (hs : q.2.2.2.2.1.2 ≤ s0 + R.slots) (kk : ax_KK p l e R s m args below meth c Q D dA ro X A M.2.2.1 c0 s0 ad0 q) : W p l e R s m args below meth c Hm locs cells slots Q (F0 m pc ls (S.map (ax_cv ad ro))) := by
  have hqle := ax_call_le (ev_le d) h
  obtain ⟨hx, hb, hml, hown, hts, hnm, hA, hSt, hfr, hlo⟩ := id C
  obtain ⟨hP, hD, hS, hl, had, hle, hX, hcc, hss, hpre⟩ := id V
  have hln : len = 3 := ax_nm_len hM.2.2 (fun _ _ _ _ h => by cases h) (fun _ _ h => by cases h)
  subst hln
  have hd : decode M.2.1 pc = .ok (.invokespecial i, 3) := hM.1
  simp only [ax_call] at h
  have h9 := hM.2.2
  simp only [ax_nm, Bool.and_eq_true, Bool.or_eq_true] at h9
  cases hb9 : Nat.beq r1 999 with
  | true =>
    rw [hb9] at h
    simp only [cond_true] at h
    split at h
    · rename_i a r
      obtain ⟨hw, h⟩ := ax_bif h
      cases h
      have hlk : (Cond.methodLink M.1.cls i Lib.objectInit).before args s = true := hts _ (hM.2.1 _ (by show _ ∈ (bif Nat.beq r1 999 then [Cond.methodLink M.1.cls i Lib.objectInit] else _); rw [hb9]; exact List.mem_cons_self))
      have hwd := ax_wid_cv (ad := ad) (ro := ro) hw
      exact W.objInit hx hb hown hlk (hts _ ax_obj_inst) (hts _ ax_obj_code) rfl (hl.1.trans hml.symm) rfl hd (by omega) (by show 2 * 0 + _ + 12 ≤ R.locals; omega) (kk Hm locs cells slots ls ad V)
    · cases h
  | false =>
    rw [hb9] at h
    simp only [cond_false] at h
    split at h
    · rename_i as a r hpop
      obtain ⟨hw, h⟩ := ax_bif h
      simp only [Bool.and_eq_true] at hw
      split at h
      · rename_i H' he
        obtain ⟨hkp, h⟩ := ax_bif h
        cases h
        have hcal : ax_cal r1 r2 true = true ∧ (Nat.beq r3 0 = true ∨ (match ax_mt[r1]? with
            | some M' => decide (Cond.methodLinkNest M.1.cls i M'.1 "BargesByBreath" ∈ ax_nest)
            | none => false) = true) := by
          rcases h9.2 with z | z | z
          · rw [z] at hb9; cases hb9
          · have : ev d r1 0 (ax_arg 0 (.ref a :: as)) [] H = none := by
              rw [Nat.eq_of_beq_eq_true z]
              exact ax_ev_none (by decide +kernel) d _ _ _ _
            rw [this] at he; cases he
          · exact z
        obtain ⟨M', hM', hno, hno2, hdd, hr2, hinit⟩ := ax_cal_inv hcal.1
        obtain ⟨bs, hbs1, hbs2, hbs3⟩ := ax_pop_inv hpop
        rw [List.append_nil] at hbs3
        have hmem : M' ∈ ax_mt := List.mem_of_getElem? hM'
        have hcd : Cond.code M'.1 M'.2.1 M'.2.2.1 M'.2.2.2.1 ∈ lw_g ∧ plainName M'.1.cls = true ∧ M'.2.2.1 ≤ 21 := ((ax_co_all M' hmem).resolve_left hno).resolve_left hno2
        have hname : M'.1.name = "<init>" := by simpa using hinit
        have hret : M'.2.2.2.1 = none := ax_init_ret M' hmem hname
        have hwds : ∀ w ∈ (bif Nat.beq r3 0 then [Cond.methodLink M.1.cls i M'.1] else []) ++ [Cond.instanceMethod M'.1, Cond.initialized M'.1.cls], w.before args s = true := fun w hw9 => hts _ (hM.2.1 _ (by
          show w ∈ (bif Nat.beq r1 999 then _ else match ax_mt[r1]? with
            | some M => (bif Nat.beq r3 0 then [Cond.methodLink _ i M.1] else []) ++ [Cond.instanceMethod M.1, Cond.initialized M.1.cls]
            | none => [])
          rw [hb9, hM']; exact hw9))
        have hins := hwds _ (List.mem_append_right _ List.mem_cons_self)
        have hini := hwds _ (List.mem_append_right _ (List.mem_cons_of_mem _ List.mem_cons_self))
        have hMet := IH r1 M' hM' hno hno2 (.ref a :: as) H H' none he (by rw [← hr2]; exact Nat.le_of_ble_eq_true hw.2) D dA ro X ad Hm.size had hle hX
        have hrm := ax_room V hc hs hqle
        have hp : PreS s Hm (va_Pc ((Value.ref a :: as).map (ax_cv ad ro)) (ax_PP D dA ro X H ad Hm.size)) (.ref (ax_ca ad ro a) :: as.map (ax_cv ad ro)) := ⟨ax_blind, ax_pre hA hSt V (.ref a :: as)⟩
        have hstk : S.map (ax_cv ad ro) = (as.map (ax_cv ad ro)).reverse ++ .ref (ax_ca ad ro a) :: r.map (ax_cv ad ro) := by
          rw [hbs2, hbs3, List.map_append, ← List.map_reverse, List.reverse_reverse]; rfl
        have hlen9 : (as.map (ax_cv ad ro)).length = r2 % 100 := by rw [List.length_map, hbs3, List.length_reverse, hbs1]
        rcases hcal.2 with z | z
        · have hlk := hwds _ (List.mem_append_left _ (by rw [z]; exact List.mem_cons_self))
          have hcb := ax_callB (R := R) (d := d) (mc := H'.2.1.1 - H.2.1.1) (ms := H'.2.1.2 - H.2.1.2) hts hcd.1 hcd.2.2 hini hlk hdd hfr hlo
          rw [hret] at hcb
          exact ax_ret_W (H' := H') (v := none) (r := r) V hA (va_runI ⟨hx, hb, hml, hown, hts⟩ hMet ⟨hcb, hname, hins⟩ hp rfl hlen9 hl.1 hstk (lv_room (ax_wid_cv hw.1)) hd hrm) hqle hkp kk
        · rw [hM'] at z
          have hnw : va_Nw (.methodLinkNest M.1.cls i M'.1 "BargesByBreath") s := hSt.2.1 _ (of_decide_eq_true z)
          have hcn := va_cnB (R := R) (args := args) (rm := ax_rm d (H'.2.1.1 - H.2.1.1) (H'.2.1.2 - H.2.1.2)) (mc := H'.2.1.1 - H.2.1.1) (ms := H'.2.1.2 - H.2.1.2) (r2 % 100) hts (ax_good_ws hcd.1) rfl rfl rfl hnw hini hdd ⟨by show 2 * d + 20 + 1 ≤ R.frames; omega, by show 8 + (M'.2.2.1 + 11) + (80 * d + 200) ≤ R.locals; have := hcd.2.2; omega⟩
          rw [hret] at hcn
          exact ax_ret_W (H' := H') (v := none) (r := r) V hA (va_runIN ⟨hx, hb, hml, hown, hts⟩ hMet ⟨hcn, hname, hins⟩ hp rfl hlen9 hl.1 hstk (lv_room (ax_wid_cv hw.1)) hd hrm) hqle hkp kk
      · cases h
    · cases h
theorem ax_w_virtual {i : Nat} (IH : ax_Snd l d) (C : ax_CT D dA ro X A p R s m args meth c M (d + 1)) (hM : ax_PE M (pc, .invokevirtual i, len, r1, r2, r3)) (V : ax_IV D dA ro X A s M.2.2.1 c0 s0 ad0 L H Hm locs cells slots ls ad) (h : ax_call (ev d) (pc, .invokevirtual i, len, r1, r2, r3) L S H = some q) (hc : q.2.2.2.2.1.1 ≤ c0 + R.cells) (hs : q.2.2.2.2.1.2 ≤ s0 + R.slots) (kk : ax_KK p l e R s m args below meth c Q D dA ro X A M.2.2.1 c0 s0 ad0 q) : W p l e R s m args below meth c Hm locs cells slots Q (F0 m pc ls (S.map (ax_cv ad ro))) := by
  have hqle := ax_call_le (ev_le d) h
  obtain ⟨hx, hb, hml, hown, hts, hnm, hA, hSt, hfr, hlo⟩ := id C
  obtain ⟨hP, hD, hS, hl, had, hle, hX, hcc, hss, hpre⟩ := id V
  have hln : len = 3 := ax_nm_len hM.2.2 (fun _ _ _ _ h => by cases h) (fun _ _ h => by cases h)
  subst hln
  have hd : decode M.2.1 pc = .ok (.invokevirtual i, 3) := hM.1
  simp only [ax_call] at h
  have h9 := hM.2.2
  simp only [ax_nm, Bool.and_eq_true] at h9
  split at h
  · rename_i as a r hpop
    obtain ⟨hw, h⟩ := ax_bif h
    simp only [Bool.and_eq_true] at hw
    split at h
    · rename_i H' v he
      obtain ⟨hkp, h⟩ := ax_bif h
      cases h
      obtain ⟨M', hM', hno, hno2, hdd, hr2, hinit⟩ := ax_cal_inv h9.2.1
      obtain ⟨bs, hbs1, hbs2, hbs3⟩ := ax_pop_inv hpop
      rw [List.append_nil] at hbs3
      have hmem : M' ∈ ax_mt := List.mem_of_getElem? hM'
      have hcd : Cond.code M'.1 M'.2.1 M'.2.2.1 M'.2.2.2.1 ∈ lw_g ∧ plainName M'.1.cls = true ∧ M'.2.2.1 ≤ 21 := ((ax_co_all M' hmem).resolve_left hno).resolve_left hno2
      have hwds : ∀ w ∈ [Cond.methodLink M.1.cls i M'.1, Cond.instanceMethod M'.1, Cond.selects M'.1.cls M'.1 M'.1, Cond.initialized M'.1.cls], w.before args s = true := fun w hw9 => hts _ (hM.2.1 _ (by
          show w ∈ (match ax_mt[r1]? with
            | some M => [Cond.methodLink _ i M.1, Cond.instanceMethod M.1, Cond.selects M.1.cls M.1 M.1, Cond.initialized M.1.cls]
            | none => [])
          rw [hM']; exact hw9))
      have hlk := hwds _ List.mem_cons_self
      have hins := hwds _ (List.mem_cons_of_mem _ List.mem_cons_self)
      have hsel := hwds _ (List.mem_cons_of_mem _ (List.mem_cons_of_mem _ List.mem_cons_self))
      have hini := hwds _ (List.mem_cons_of_mem _ (List.mem_cons_of_mem _ (List.mem_cons_of_mem _ List.mem_cons_self)))
      have hMet := IH r1 M' hM' hno hno2 (.ref a :: as) H H' v he (by rw [← hr2]; exact Nat.le_of_ble_eq_true hw.2.1) D dA ro X ad Hm.size had hle hX
      have hrm := ax_room V hc hs hqle
      obtain ⟨fs, hfs⟩ := Option.isSome_iff_exists.mp hw.2.2
      obtain ⟨ha9, he9⟩ := ax_obj_inv hfs
      have h10 := h9.2.2
      rw [hM'] at h10
      cases hcls : vwCl[r3]? with
      | none => rw [hcls] at h10; cases h10
      | some qc =>
        rw [hcls] at h10
        have hC : M'.1.cls = qc.1 := of_decide_eq_true h10
        have hrecv := va_recv hSt.1 hP hcls (ax_cw_at (dA := dA) (ro := ro) had hle he9)
        rw [← hC] at hrecv
        have hp : PreV s Hm M'.1.cls (ax_ca ad ro a) (va_Pc ((Value.ref a :: as).map (ax_cv ad ro)) (ax_PP D dA ro X H ad Hm.size)) (as.map (ax_cv ad ro)) := ⟨ax_blind, hrecv, ax_pre hA hSt V (.ref a :: as)⟩
        have hstk : S.map (ax_cv ad ro) = (as.map (ax_cv ad ro)).reverse ++ .ref (ax_ca ad ro a) :: r.map (ax_cv ad ro) := by
          rw [hbs2, hbs3, List.map_append, ← List.map_reverse, List.reverse_reverse]; rfl
        have hlen9 : (as.map (ax_cv ad ro)).length = r2 % 100 := by rw [List.length_map, hbs3, List.length_reverse, hbs1]
        exact ax_ret_W (H' := H') (v := v) (r := r) V hA (va_runV ⟨hx, hb, hml, hown, hts⟩ hMet ⟨ax_callB hts hcd.1 hcd.2.2 hini hlk hdd hfr hlo, hins, hsel⟩ hp rfl hlen9 hl.1 hstk (lv_room (ax_wid_cv hw.1)) hd hrm) hqle hkp kk
    · cases h
  · cases h
end AXD
