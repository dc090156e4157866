/-! Methods that throw: their contract -/
def ax_hasI (M : ax_M) (pc : Nat) (ins : Instr) (len : Nat) : Bool := M.2.2.2.2.any (fun e => Nat.beq e.1 pc && (decide (e.2.1 = ins) && Nat.beq e.2.2.1 len))
theorem ax_hasI_dec {M : ax_M} (hM : M ∈ ax_mt) {pc len : Nat} {ins : Instr} (h : ax_hasI M pc ins len = true) : decode M.2.1 pc = .ok (ins, len) := by
  obtain ⟨e, he, h1⟩ := List.any_eq_true.mp h
  simp only [Bool.and_eq_true, decide_eq_true_eq] at h1
  have h2 := (ax_ok_all M hM e he).1
  rw [Nat.eq_of_beq_eq_true h1.1, h1.2.1, Nat.eq_of_beq_eq_true h1.2.2] at h2
  exact h2
def ax_site (M : ax_M) (i : ax_I) : Bool := decide (M.1.cls = "BargesByBreath") && (decide (i.2.1 = .new 130) && (Nat.beq i.2.2.1 3 && (ax_hasI M (i.1 + 3) .dup 1 &&
  ax_str.any (fun q => (ax_hasI M (i.1 + 4) (.ldc q.1) 2 && (ax_hasI M (i.1 + 6) (.invokespecial 134) 3 && ax_hasI M (i.1 + 9) .athrow 1)) || (ax_hasI M (i.1 + 4) (.ldc_w q.1) 3 && (ax_hasI M (i.1 + 7) (.invokespecial 134) 3 && ax_hasI M (i.1 + 10) .athrow 1))))))
theorem ax_sites : ∀ M ∈ ax_mt, ∀ i ∈ M.2.2.2.2, (∃ k, i.2.1 = .new k) → i.2.2.2.1 = 990 → ax_site M i = true := by
  intro M hM i hi hk h9
  have h : (ax_mt.all fun M => M.2.2.2.2.all fun i => (match i.2.1 with | .new _ => !(Nat.beq i.2.2.2.1 990) || ax_site M i | _ => true)) = true := by decide +kernel
  have h1 := List.all_eq_true.mp (List.all_eq_true.mp h M hM) i hi
  obtain ⟨k, hk⟩ := hk
  rw [hk, h9] at h1
  exact h1
theorem ax_ex_good : ∀ w ∈ ((ax_exA "BargesByBreath" 134).filter vx_no).filter goodWord, w ∈ lw_tbl := by decide +kernel
theorem ax_ex_rest : ∀ w ∈ ((ax_exA "BargesByBreath" 134).filter vx_no).filter (fun w => !goodWord w), w ∈ ax_xw := by decide +kernel
theorem ax_xw_ot : ∀ w ∈ ax_xw, w.onTables = true := by decide +kernel
theorem ax_ex_ot : ∀ w ∈ Cond.classLink "BargesByBreath" 130 ax_NSE :: Cond.initialized ax_NSE :: (ax_exA "BargesByBreath" 134).filter vx_no, vx_ot w = true := by decide +kernel
theorem ax_ex_cl : Cond.classLink "BargesByBreath" 130 ax_NSE ∈ lw_g := lw_g_of (List.mem_of_getElem? (i := 960) (by decide +kernel)) rfl
theorem ax_ex_in : Cond.initialized ax_NSE ∈ lw_g := lw_g_of (List.mem_of_getElem? (i := 94) (by decide +kernel)) rfl
def ax_XC (D : va_G) (dA : FieldType → ClassId) (ro : Nat → Nat) (X : Nat × (Nat → Int32)) (ad : List Nat) (A : Nat → Prop) (H' : ax_H) : String → State → State → Prop := fun E st t =>
  E = ax_NSE ∧ ∃ ex : List Nat, va_P D vwCl (ax_cw dA (ad ++ ex) ro H'.1) t.heap ∧ va_D A (ax_cw dA (ad ++ ex) ro H'.1) ∧ (ad ++ ex).length = H'.1.length ∧ H'.1.length ≤ 1000000 ∧ H'.2.2 = X ∧ va_F A st t
theorem ax_sndx (l : Launch) (hst : l.stackTraces = false) (d : Nat) {j : Nat} {M : ax_M} (hj : ax_mt[j]? = some M) (hno : M.1.cls ≠ "BargesByBreathLaw") (hno2 : M.1.cls ≠ "java/lang/Math") {vs : List Value} {H H' : ax_H} (he : ev (d + 1) j 0 (ax_arg 0 vs) [] H = some (H', none)) (hwd : ax_wid vs ≤ M.2.2.1)
    (D : va_G) (dA : FieldType → ClassId) (ro : Nat → Nat) (X : Nat × (Nat → Int32)) (ad : List Nat) (sz : Nat) (had : ad.length = H.1.length) (hle : H.1.length ≤ 1000000) (hX : H.2.2 = X) :
    vx_Met l M.1 (ax_ws M) (ax_rm (d + 1) (H'.2.1.1 - H.2.1.1) (H'.2.1.2 - H.2.1.2)) (va_Pc (vs.map (ax_cv ad ro)) (ax_PP D dA ro X H ad sz)) (fun _ _ _ _ => False) (ax_XC D dA ro X ad (va_A (ax_cw dA ad ro H.1) sz) H') (H'.2.1.1 - H.2.1.1) (H'.2.1.2 - H.2.1.2) (va_A (ax_cw dA ad ro H.1) sz) := by
  have IH := ax_snd l d
  have hmem : M ∈ ax_mt := List.mem_of_getElem? hj
  have hcd : Cond.code M.1 M.2.1 M.2.2.1 M.2.2.2.1 ∈ lw_g ∧ plainName M.1.cls = true ∧ M.2.2.1 ≤ 21 := ((ax_co_all M hmem).resolve_left hno).resolve_left hno2
  obtain ⟨n, hn⟩ := ev_it he
  have hup : ax_le H H' := ev_le (d + 1) _ _ _ _ _ _ he
  have hup1 : H.2.1.1 ≤ H'.2.1.1 := hup.1
  have hup2 : H.2.1.2 ≤ H'.2.1.2 := hup.2
  refine vx_ofW (cc := M.2.1) (maxL := M.2.2.1) (ret := M.2.2.2.1) hcd.2.1 rfl ?_
  intro p e s m args below meth c s₁ B hml htab hv
  obtain ⟨rfl, hsz, hP, hD0, hSt⟩ := hv
  have hx := B.exec
  have hb := B.bytes
  have hts0 := atoms_spec (ws := ax_ws M) B.pre
  have hts : ∀ w ∈ lw_g, w.before ((vs.map (ax_cv ad ro)).toArray) s = true := fun w hw => hts0 w (List.mem_cons_of_mem _ hw)
  have hown : s.vm.findClass M.1.cls = some m.cls := findClass_of_methodNamed B.named
  have hlocks := B.notSynchronized
  have hin : M.1.name = "<init>" → meth.name = "<init>" := fun h => (name_of_methodNamed B.named B.method).1.trans h
  subst hsz
  have hD := hD0.self (sz := s.heap.size)
  generalize hAe : va_A (ax_cw dA ad ro H.1) s.heap.size = A at hD hSt ⊢
  have hA : ∀ q : Nat, s.heap.size ≤ q → A q := fun q h => by rw [← hAe]; exact Or.inr h
  have hl := lv_entry (vs.map (ax_cv ad ro)) (n := M.2.2.1) (by rw [ax_wid_sl]; have : ((vs.map (ax_cv ad ro)).map fun v => v.category) = vs.map (fun v => v.category) := by { rw [List.map_map]; exact List.map_congr_left fun v _ => ax_cv_cat ad ro v }; rw [this]; exact hwd)
  rw [lg_entry_eq]
  rw [← ax_arg_cl] at hl
  have C : ax_CT D dA ro X A p (headSpec (ax_ws M) (ax_rm (d + 1) (H'.2.1.1 - H.2.1.1) (H'.2.1.2 - H.2.1.2))).room s m ((vs.map (ax_cv ad ro)).toArray) meth c M (d + 1) := ⟨hx, hb, hml, hown, hts, hin, hA, hSt, Nat.le_refl _, Nat.le_refl _⟩
  refine ax_walk (c0 := H.2.1.1) (s0 := H.2.1.2) (ad0 := ad) (r := (H', none)) IH hj (fun i hi h1 h2 h3 => (ax_nowrap M hmem hno i hi h1 h2 h3).elim) C (by show H'.2.1.1 ≤ H.2.1.1 + (H'.2.1.1 - H.2.1.1); omega) (by show H'.2.1.2 ≤ H.2.1.2 + (H'.2.1.2 - H.2.1.2); omega) ?_ n 0 (ax_arg 0 vs) [] H s.heap [] 0 0 _ ad ⟨hP, hD, va_S.rf, hl, had, hle, hX, rfl, rfl, [], (List.append_nil ad).symm⟩ hn
  intro pc L S H2 Hm locs cells slots ls ad2 V hend
  obtain ⟨vP, vD, vS, vl, vad, vle, vX, vcc, vss, ex, rfl⟩ := V
  unfold ax_end at hend
  split at hend
  · rename_i i hi
    obtain ⟨M2, hM2, hmem2, hpc⟩ := ax_at_inv hi
    have e1 : M2 = M := Option.some.inj (hM2.symm.trans hj)
    subst e1
    obtain ⟨pc2, ins, len, r1, r2, r3⟩ := i
    have hpc : pc2 = pc := hpc
    subst hpc
    have hPE := ax_ok_all M2 (List.mem_of_getElem? hj) _ hmem2
    unfold ax_fin at hend
    simp only at hend
    split at hend
    · split at hend
      · cases hend
      · split at hend <;> cases hend
      · cases hend
    · split at hend <;> cases hend
    · split at hend <;> cases hend
    · split at hend <;> cases hend
    · rename_i k
      obtain ⟨hr1, hend⟩ := ax_bif hend
      split at hend
      · cases hend
        have hsite := ax_sites M2 hmem _ hmem2 ⟨k, rfl⟩ (Nat.eq_of_beq_eq_true hr1)
        simp only [ax_site, Bool.and_eq_true, decide_eq_true_eq] at hsite
        obtain ⟨hcls, hnew, hlen, hdup, hstr⟩ := hsite
        have hlen : len = 3 := Nat.eq_of_beq_eq_true hlen
        subst hlen
        have hk9 : k = 130 := by injection hnew
        subst hk9
        obtain ⟨q, hq, hq2⟩ := List.any_eq_true.mp hstr
        obtain ⟨sa, hsa⟩ := hSt.2.2.2.2.2.2 q hq
        have hown9 : s.vm.findClass "BargesByBreath" = some m.cls := by rw [← hcls]; exact hown
        have hat9 : ∀ w ∈ (ax_exA "BargesByBreath" 134).filter vx_no, w.before ((vs.map (ax_cv ad ro)).toArray) s = true := vx_hat (B := ax_xw) (fun w hw => hts w (lw_g_of (ax_ex_good w hw) (List.mem_filter.mp hw).2)) ax_ex_rest (fun w hw => va_Nw.use (ax_xw_ot w hw) (hSt.2.2.2.2.2.1 w hw))
        have hxc : ∀ t : State, s.vm.Alike t.vm → Hm.size ≤ t.heap.size → (∀ q : Nat, q < Hm.size → t.heap[q]? = Hm[q]?) → ax_XC D dA ro X ad A (H2.1, (H2.2.1.1 + 1, H2.2.1.2 + 6), H2.2.2) ax_NSE s t := fun t _ h1 h2 =>
          ⟨rfl, ex, vP.kept (fun k q hk => h2 q.1 (vP k q hk).lt), vD, vad, vle, vX, ⟨Nat.le_trans vS.1 h1, fun q hq1 hq2 => (h2 q (Nat.lt_of_lt_of_le hq1 vS.1)).trans (vS.2.1 q hq1 hq2)⟩⟩
        have c1 : cells + 1 ≤ H2.2.1.1 + 1 - H.2.1.1 := by omega
        have c2 : slots + 6 ≤ H2.2.1.2 + 6 - H.2.1.2 := by omega
        have hd0 : decode M2.2.1 pc2 = .ok (.new 130, 3) := hPE.1
        have f1 : 2 + 3 < (headSpec (ax_ws M2) (ax_rm (d + 1) (H2.2.1.1 + 1 - H.2.1.1) (H2.2.1.2 + 6 - H.2.1.2))).room.frames := by show 2 + 3 < 2 * (d + 1) + 20; omega
        have f2 : (([] : List Value).map fun v => v.category).sum + (13 * (2 + 1) + 43) ≤ (headSpec (ax_ws M2) (ax_rm (d + 1) (H2.2.1.1 + 1 - H.2.1.1) (H2.2.1.2 + 6 - H.2.1.2))).room.locals := by show 0 + (13 * (2 + 1) + 43) ≤ 80 * (d + 1) + 200; omega
        rcases Bool.or_eq_true_iff.mp hq2 with hq3 | hq3
        · simp only [Bool.and_eq_true] at hq3
          exact ax_thr_W (rest := []) (A := A) hx hb hst hown9 (hts _ ax_ex_cl) (hts _ ax_ex_in) hsa hat9 ax_ex_ot hSt.2.2.2.2.1.1 hSt.2.2.2.2.1.2 vS (vl.1.trans hml.symm) hd0 (ax_hasI_dec hmem hdup) (ax_hasI_dec hmem hq3.1) (ax_hasI_dec hmem hq3.2.1) (ax_hasI_dec hmem hq3.2.2) (fun x hx9 => (htab x hx9).elim) f1 f2 c1 c2 hlocks hxc vS.2.2 c1 c2
        · simp only [Bool.and_eq_true] at hq3
          exact ax_thrw_W (rest := []) (A := A) hx hb hst hown9 (hts _ ax_ex_cl) (hts _ ax_ex_in) hsa hat9 ax_ex_ot hSt.2.2.2.2.1.1 hSt.2.2.2.2.1.2 vS (vl.1.trans hml.symm) hd0 (ax_hasI_dec hmem hdup) (ax_hasI_dec hmem hq3.1) (ax_hasI_dec hmem hq3.2.1) (ax_hasI_dec hmem hq3.2.2) (fun x hx9 => (htab x hx9).elim) f1 f2 c1 c2 hlocks hxc vS.2.2 c1 c2
      · cases hend
    · cases hend
  · cases hend
