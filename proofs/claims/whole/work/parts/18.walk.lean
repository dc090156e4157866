/-! Static calls, whole bodies, and the soundness of the small machine -/
section AXW
variable {p : Program} {l : Launch} {e : Env} {R : Room} {s : State} {m : MethodId} {args : Array Value} {below : List Frame} {meth : Method} {c : Code} {Q : State → Prop}
variable {ad0 : List Nat} {D : va_G} {dA : FieldType → ClassId} {ro : Nat → Nat} {X : Nat × (Nat → Int32)} {A : Nat → Prop} {M : ax_M} {d c0 s0 : Nat}
variable {pc len r1 r2 r3 : Nat} {L : ax_L} {S : List Value} {H : ax_H} {Hm : Heap} {locs : List Loc} {cells slots : Nat} {ls : Array Slot} {ad : List Nat} {q : ax_S}
/-- an instruction's step, in this method's body -/
def ax_WP (p : Program) (l : Launch) (e : Env) (R : Room) (s : State) (m : MethodId) (args : Array Value) (below : List Frame) (meth : Method) (c : Code) (Q : State → Prop) (D : va_G) (dA : FieldType → ClassId) (ro : Nat → Nat) (X : Nat × (Nat → Int32)) (A : Nat → Prop) (mx c0 s0 : Nat) (ad0 : List Nat) (d : Nat) (i : ax_I) : Prop :=
  ∀ (L : ax_L) (S : List Value) (H : ax_H) (Hm : Heap) (locs : List Loc) (cells slots : Nat) (ls : Array Slot) (ad : List Nat) (q : ax_S), ax_IV D dA ro X A s mx c0 s0 ad0 L H Hm locs cells slots ls ad → ax_call (ev d) i L S H = some q → q.2.2.2.2.1.1 ≤ c0 + R.cells → q.2.2.2.2.1.2 ≤ s0 + R.slots →
    ax_KK p l e R s m args below meth c Q D dA ro X A mx c0 s0 ad0 q → W p l e R s m args below meth c Hm locs cells slots Q (F0 m i.1 ls (S.map (ax_cv ad ro)))
theorem ax_cpy_inv {H H' : ax_H} {a b : Nat} {sp dp n : Int32} (h : ax_cpy H a b sp dp n = some H') : ∃ n0 n1 f g, H.1[a]? = some (.inl (.int, n0, .inl f)) ∧ H.1[b]? = some (.inl (.int, n1, .inl g)) ∧ (¬ sp < 0 ∧ ¬ dp < 0 ∧ ¬ n < 0 ∧ sp.toNatClampNeg + n.toNatClampNeg ≤ n0 ∧ dp.toNatClampNeg + n.toNatClampNeg ≤ n1) ∧ H' = ax_put H b (.inl (.int, n1, .inl (va_cpy f g sp.toNatClampNeg dp.toNatClampNeg n.toNatClampNeg))) := by
  unfold ax_cpy at h
  cases hb : (Nat.ble 1000000 a || Nat.ble 1000000 b) with
  | true => rw [hb] at h; cases h
  | false =>
    rw [hb] at h
    simp only [cond_false] at h
    split at h
    · rename_i n0 f n1 g h1 h2
      split at h
      · rename_i hc
        cases h
        exact ⟨n0, n1, f, g, h1, h2, hc, rfl⟩
      · cases h
    · cases h
theorem ax_w_static {i : Nat} (IH : ax_Snd l d) (C : ax_CT D dA ro X A p R s m args meth c M (d + 1)) (hM : ax_PE M (pc, .invokestatic i, len, r1, r2, r3)) (hwr : 4 ≤ r1 → r1 ≤ 6 → ax_WP p l e R s m args below meth c Q D dA ro X A M.2.2.1 c0 s0 ad0 d (pc, .invokestatic i, len, r1, r2, r3)) (V : ax_IV D dA ro X A s M.2.2.1 c0 s0 ad0 L H Hm locs cells slots ls ad) (h : ax_call (ev d) (pc, .invokestatic i, len, r1, r2, r3) L S H = some q) (hc : q.2.2.2.2.1.1 ≤ c0 + R.cells) (hs : q.2.2.2.2.1.2 ≤ s0 + R.slots) (kk : ax_KK p l e R s m args below meth c Q D dA ro X A M.2.2.1 c0 s0 ad0 q) : W p l e R s m args below meth c Hm locs cells slots Q (F0 m pc ls (S.map (ax_cv ad ro))) := by
  by_cases h46 : 4 ≤ r1 ∧ r1 ≤ 6
  · exact hwr h46.1 h46.2 L S H Hm locs cells slots ls ad q V h hc hs kk
  have hqle := ax_call_le (ev_le d) h
  obtain ⟨hx, hb, hml, hown, hts, hnm, hA, hSt, hfr, hlo⟩ := id C
  obtain ⟨hP, hD, hS, hl, had, hle, hX, hcc, hss, hpre⟩ := id V
  have hln : len = 3 := ax_nm_len hM.2.2 (fun _ _ _ _ h => by cases h) (fun _ _ h => by cases h)
  subst hln
  have hd : decode M.2.1 pc = .ok (.invokestatic i, 3) := hM.1
  simp only [ax_call] at h
  have h9 := hM.2.2
  simp only [ax_nm, Bool.and_eq_true, Bool.or_eq_true] at h9
  have nb : ∀ k, 4 ≤ k → k ≤ 6 → Nat.beq r1 k = false := fun k h1 h2 => by
    cases hz : Nat.beq r1 k with
    | false => rfl
    | true => have := Nat.eq_of_beq_eq_true hz; omega
  rw [nb 4 (by decide) (by decide), nb 5 (by decide) (by decide), nb 6 (by decide) (by decide)] at h
  simp only [cond_false] at h
  cases hb9 : Nat.beq r1 998 with
  | true =>
    rw [hb9] at h
    simp only [cond_true] at h
    split at h
    · rename_i n dp b sp a r
      obtain ⟨hw, h⟩ := ax_bif h
      split at h
      · rename_i H' he
        cases h
        obtain ⟨n0, n1, f, g, ha, hb8, ⟨q1, q2, q3, q4, q5⟩, rfl⟩ := ax_cpy_inv he
        have hwds : ∀ w ∈ [Cond.methodLink M.1.cls i arraycopyName, Cond.native arraycopyName, Cond.static arraycopyName, Cond.initialized "java/lang/System"], w.before args s = true := fun w hw9 => hts _ (hM.2.1 _ (by
          show w ∈ (bif Nat.beq r1 998 then _ else _)
          rw [hb9]; exact hw9))
        have hwd := ax_wid_cv (ad := ad) (ro := ro) hw
        obtain ⟨t, ht⟩ := ax_ty_at (dA := dA) (ty := .int) (by simp)
        refine va_copyi hx hb (hml.trans hl.1.symm) hown (hwds _ List.mem_cons_self) (hwds _ (List.mem_cons_of_mem _ List.mem_cons_self)) (hwds _ (List.mem_cons_of_mem _ (List.mem_cons_of_mem _ List.mem_cons_self))) (hwds _ (List.mem_cons_of_mem _ (List.mem_cons_of_mem _ (List.mem_cons_of_mem _ List.mem_cons_self)))) hSt.1 hP hD hS a b t t (ax_cw_at (dA := dA) (ro := ro) had hle ha) (ax_cw_at (dA := dA) (ro := ro) had hle hb8) ht ht rfl q1 q2 q3 q4 q5 (fun _ _ => rfl) (by omega) ?_ hd (fun H1 locs1 p1 d1 s1 => kk H1 locs1 cells slots ls ad (ax_iv_put V hb8 p1 d1 s1))
        have hnf : nativeFrameWords "java/lang/System" "arraycopy" 5 ≤ 100 := by decide +kernel
        omega
      · cases h
    · cases h
  | false =>
    rw [hb9] at h
    simp only [cond_false] at h
    cases hb7 : (Nat.ble 1 r1 && Nat.ble r1 3) with
    | true => rw [hb7] at h; cases h
    | false =>
    rw [hb7] at h
    simp only [cond_false] at h
    split at h
    · rename_i as r hpop
      obtain ⟨hw, h⟩ := ax_bif h
      simp only [Bool.and_eq_true] at hw
      split at h
      · rename_i H' v he
        obtain ⟨hkp, h⟩ := ax_bif h
        cases h
        have hcal : ax_cal r1 r2 false = true := by
          rcases h9.2 with z | z | z
          · rw [z] at hb9; cases hb9
          · have z1 := Nat.le_of_ble_eq_true z.1
            have z2 := Nat.le_of_ble_eq_true z.2
            have z3 : r1 ≤ 3 := by omega
            rw [z.1, Nat.ble_eq_true_of_le z3] at hb7
            cases hb7
          · exact z
        obtain ⟨M', hM', hno, hno2, hdd, hr2, hinit⟩ := ax_cal_inv hcal
        obtain ⟨bs, hbs1, hbs2, hbs3⟩ := ax_pop_inv hpop
        rw [List.append_nil] at hbs3
        have hmem : M' ∈ ax_mt := List.mem_of_getElem? hM'
        have hcd : Cond.code M'.1 M'.2.1 M'.2.2.1 M'.2.2.2.1 ∈ lw_g ∧ plainName M'.1.cls = true ∧ M'.2.2.1 ≤ 21 := ((ax_co_all M' hmem).resolve_left hno).resolve_left hno2
        have hwds : ∀ w ∈ [Cond.methodLink M.1.cls i M'.1, Cond.static M'.1, Cond.initialized M'.1.cls], w.before args s = true := fun w hw9 => hts _ (hM.2.1 _ (by
          show w ∈ (bif Nat.beq r1 998 then _ else match ax_mt[r1]? with
            | some M => [Cond.methodLink _ i M.1, Cond.static M.1, Cond.initialized M.1.cls]
            | none => [])
          rw [hb9, hM']; exact hw9))
        have hlk := hwds _ List.mem_cons_self
        have hsta := hwds _ (List.mem_cons_of_mem _ List.mem_cons_self)
        have hini := hwds _ (List.mem_cons_of_mem _ (List.mem_cons_of_mem _ List.mem_cons_self))
        have hMet := IH r1 M' hM' hno hno2 as H H' v he (by rw [← hr2]; exact Nat.le_of_ble_eq_true hw.2) D dA ro X ad Hm.size had hle hX
        have hrm := ax_room V hc hs hqle
        have hp : PreS s Hm (va_Pc (as.map (ax_cv ad ro)) (ax_PP D dA ro X H ad Hm.size)) (as.map (ax_cv ad ro)) := ⟨ax_blind, ax_pre hA hSt V as⟩
        have hstk : S.map (ax_cv ad ro) = (as.map (ax_cv ad ro)).reverse ++ r.map (ax_cv ad ro) := by
          rw [hbs2, hbs3, List.map_append, ← List.map_reverse, List.reverse_reverse]
        have hlen9 : (as.map (ax_cv ad ro)).length = r2 % 100 := by rw [List.length_map, hbs3, List.length_reverse, hbs1]
        exact ax_ret_W (H' := H') (v := v) (r := r) V hA (va_runS ⟨hx, hb, hml, hown, hts⟩ hMet ⟨ax_callB hts hcd.1 hcd.2.2 hini hlk hdd hfr hlo, hsta⟩ hp rfl hlen9 hl.1 hstk (lv_room (ax_wid_cv hw.1)) hd hrm) hqle hkp kk
      · cases h
    · cases h
theorem ax_at_inv {j pc : Nat} {i : ax_I} (h : ax_at j pc = some i) : ∃ M, ax_mt[j]? = some M ∧ i ∈ M.2.2.2.2 ∧ i.1 = pc := by
  unfold ax_at at h
  split at h
  · rename_i M hM
    exact ⟨M, hM, List.mem_of_find?_eq_some h, Nat.eq_of_beq_eq_true (List.find?_some (p := fun e : ax_I => Nat.beq e.1 pc) h)⟩
  · cases h
/-- a step of the body -/
theorem ax_next_W {j : Nat} (IH : ax_Snd l d) (hj : ax_mt[j]? = some M) (hwr : ∀ i ∈ M.2.2.2.2, 4 ≤ i.2.2.2.1 → i.2.2.2.1 ≤ 6 → (∃ k, i.2.1 = .invokestatic k) → ax_WP p l e R s m args below meth c Q D dA ro X A M.2.2.1 c0 s0 ad0 d i) (C : ax_CT D dA ro X A p R s m args meth c M (d + 1)) (V : ax_IV D dA ro X A s M.2.2.1 c0 s0 ad0 L H Hm locs cells slots ls ad) (h : ax_next (ev d) j pc L S H = some q) (hc : q.2.2.2.2.1.1 ≤ c0 + R.cells) (hs : q.2.2.2.2.1.2 ≤ s0 + R.slots) (kk : ax_KK p l e R s m args below meth c Q D dA ro X A M.2.2.1 c0 s0 ad0 q) : W p l e R s m args below meth c Hm locs cells slots Q (F0 m pc ls (S.map (ax_cv ad ro))) := by
  unfold ax_next at h
  split at h
  · rename_i i hi
    obtain ⟨M2, hM2, hmem, hpc⟩ := ax_at_inv hi
    have e1 : M2 = M := Option.some.inj (hM2.symm.trans hj)
    subst e1
    have hPE := ax_ok_all M2 (List.mem_of_getElem? hj) i hmem
    obtain ⟨pc2, ins, len, r1, r2, r3⟩ := i
    have hpc : pc2 = pc := hpc
    subst hpc
    split at h
    · rename_i q0 hq0
      cases h
      have kk : ax_KK p l e R s m args below meth c Q D dA ro X A M2.2.2.1 c0 s0 ad0 q0 := fun Hm locs cells slots ls ad V2 => kk Hm locs cells slots ls ad (by
        obtain ⟨v1, v2, v3, v4, v5⟩ := V2
        exact ⟨v1, v2, v3, ax_lv_sub v4 (fun z hz => by
          obtain ⟨y, hy, rfl⟩ := List.mem_map.mp hz
          refine List.mem_map.mpr ⟨y, ?_, rfl⟩
          have hy : y ∈ ax_flt (ax_msk j q0.1) q0.2.1 := hy
          unfold ax_flt at hy
          split at hy
          · exact (List.mem_filter.mp hy).1
          · exact hy), v5⟩)
      unfold ax_nx at hq0
      split at hq0
      · rename_i q2 hq2
        cases hq0
        exact ax_s1_W C hPE V hq2 hc hs kk
      · cases ins with
        | invokespecial k => exact ax_w_special IH C hPE V hq0 hc hs kk
        | invokevirtual k => exact ax_w_virtual IH C hPE V hq0 hc hs kk
        | invokestatic k => exact ax_w_static IH C hPE (fun h1 h2 => hwr _ hmem h1 h2 ⟨k, rfl⟩) V hq0 hc hs kk
        | _ => exact absurd hq0 (by intro z; cases z)
    · cases h
  · cases h
/-- the body up to an end -/
theorem ax_walk {j : Nat} {r : ax_R} (IH : ax_Snd l d) (hj : ax_mt[j]? = some M) (hwr : ∀ i ∈ M.2.2.2.2, 4 ≤ i.2.2.2.1 → i.2.2.2.1 ≤ 6 → (∃ k, i.2.1 = .invokestatic k) → ax_WP p l e R s m args below meth c Q D dA ro X A M.2.2.1 c0 s0 ad0 d i) (C : ax_CT D dA ro X A p R s m args meth c M (d + 1)) (hc : r.1.2.1.1 ≤ c0 + R.cells) (hs : r.1.2.1.2 ≤ s0 + R.slots)
    (hend : ∀ (pc : Nat) (L : ax_L) (S : List Value) (H : ax_H) (Hm : Heap) (locs : List Loc) (cells slots : Nat) (ls : Array Slot) (ad : List Nat), ax_IV D dA ro X A s M.2.2.1 c0 s0 ad0 L H Hm locs cells slots ls ad → ax_end j pc S H = some r → W p l e R s m args below meth c Hm locs cells slots Q (F0 m pc ls (S.map (ax_cv ad ro)))) :
    ∀ (n pc : Nat) (L : ax_L) (S : List Value) (H : ax_H) (Hm : Heap) (locs : List Loc) (cells slots : Nat) (ls : Array Slot) (ad : List Nat), ax_IV D dA ro X A s M.2.2.1 c0 s0 ad0 L H Hm locs cells slots ls ad → ax_it (ev d) n j pc L S H = some r → W p l e R s m args below meth c Hm locs cells slots Q (F0 m pc ls (S.map (ax_cv ad ro)))
  | 0, _, _, _, _, _, _, _, _, _, _, _, h => by cases h
  | n + 1, pc, L, S, H, Hm, locs, cells, slots, ls, ad, V, h => by
    simp only [ax_it] at h
    cases h1 : ax_end j pc S H with
    | some r1 => rw [h1] at h; cases h; exact hend pc L S H Hm locs cells slots ls ad V h1
    | none =>
      rw [h1] at h
      cases h2 : ax_next (ev d) j pc L S H with
      | none => rw [h2] at h; cases h
      | some q =>
        rw [h2] at h
        have hq := ax_it_le (ev_le d) n j q.1 q.2.1 q.2.2.1 q.2.2.2 r h
        have hq1 : q.2.2.2.2.1.1 ≤ r.1.2.1.1 := hq.1
        have hq2 : q.2.2.2.2.1.2 ≤ r.1.2.1.2 := hq.2
        exact ax_next_W IH hj hwr C V h2 (by omega) (by omega) (fun Hm locs cells slots ls ad V2 => ax_walk IH hj hwr C hc hs hend n q.1 q.2.1 q.2.2.1 q.2.2.2 Hm locs cells slots ls ad V2 h)
end AXW
/-- nothing but the law asks by the three ways -/
theorem ax_nowrap : ∀ M ∈ ax_mt, M.1.cls ≠ "BargesByBreathLaw" → ∀ i ∈ M.2.2.2.2, 4 ≤ i.2.2.2.1 → i.2.2.2.1 ≤ 6 → (∃ k, i.2.1 = .invokestatic k) → False := by
  intro M hM hno i hi h1 h2 h3
  have h : (ax_mt.all fun M => decide (M.1.cls = "BargesByBreathLaw") || M.2.2.2.2.all (fun i => !(Nat.ble 4 i.2.2.2.1 && Nat.ble i.2.2.2.1 6) || (match i.2.1 with | .invokestatic _ => false | _ => true))) = true := by decide +kernel
  have h4 := List.all_eq_true.mp h M hM
  rw [decide_eq_false hno, Bool.false_or] at h4
  have h5 := List.all_eq_true.mp h4 i hi
  obtain ⟨k, hk⟩ := h3
  rw [hk, Nat.ble_eq_true_of_le h1, Nat.ble_eq_true_of_le h2] at h5
  cases h5
theorem ax_snd (l : Launch) : ∀ d : Nat, ax_Snd l d
  | 0 => fun j M hj hno hno2 vs H H' v he => by cases he
  | d + 1 => fun j M hj hno hno2 vs H H' v he hwd D dA ro X ad sz had hle hX => by
    have IH := ax_snd l d
    have hmem : M ∈ ax_mt := List.mem_of_getElem? hj
    have hcd : Cond.code M.1 M.2.1 M.2.2.1 M.2.2.2.1 ∈ lw_g ∧ plainName M.1.cls = true ∧ M.2.2.1 ≤ 21 := ((ax_co_all M hmem).resolve_left hno).resolve_left hno2
    obtain ⟨n, hn⟩ := ev_it he
    have hup : ax_le H H' := ev_le (d + 1) _ _ _ _ _ _ he
    have hup1 : H.2.1.1 ≤ H'.2.1.1 := hup.1
    have hup2 : H.2.1.2 ≤ H'.2.1.2 := hup.2
    refine Met.ofW (cc := M.2.1) (maxL := M.2.2.1) (ret := M.2.2.2.1) hcd.2.1 rfl ?_
    intro p e s m args below meth c s₁ B hml hv
    obtain ⟨rfl, hsz, hP, hD0, hSt⟩ := hv
    have hx := B.exec
    have hb := B.bytes
    have hr := B.returns
    have hts0 := atoms_spec (ws := ax_ws M) B.pre
    have hts : ∀ w ∈ lw_g, w.before ((vs.map (ax_cv ad ro)).toArray) s = true := fun w hw => hts0 w (List.mem_cons_of_mem _ hw)
    have hown : s.vm.findClass M.1.cls = some m.cls := findClass_of_methodNamed B.named
    have hlocks := B.notSynchronized
    have hin : M.1.name = "<init>" → meth.name = "<init>" := fun h => (name_of_methodNamed B.named B.method).1.trans h
    subst hsz
    have hD := hD0.self (sz := s.heap.size)
    generalize hAe : va_A (ax_cw dA ad ro H.1) s.heap.size = A at hD hSt ⊢
    have hA : ∀ q : Nat, s.heap.size ≤ q → A q := fun q h => by rw [← hAe]; exact Or.inr h
    have hl := lv_entry (vs.map (ax_cv ad ro)) (n := M.2.2.1) (by rw [ax_wid_sl]; have : ((vs.map (ax_cv ad ro)).map fun v => v.category) = vs.map (fun v => v.category) := by { rw [List.map_map]; exact List.map_congr_left fun v _ => ax_cv_cat ad ro v }; rw [this]; exact hwd)
    rw [lg_entry_eq]
    rw [← ax_arg_cl] at hl
    have C : ax_CT D dA ro X A p (headSpec (ax_ws M) (ax_rm (d + 1) (H'.2.1.1 - H.2.1.1) (H'.2.1.2 - H.2.1.2))).room s m ((vs.map (ax_cv ad ro)).toArray) meth c M (d + 1) := ⟨hx, hb, hml, hown, hts, hin, hA, hSt, Nat.le_refl _, Nat.le_refl _⟩
    refine ax_walk (c0 := H.2.1.1) (s0 := H.2.1.2) (ad0 := ad) (r := (H', some v)) IH hj (fun i hi h1 h2 h3 => (ax_nowrap M hmem hno i hi h1 h2 h3).elim) C (by show H'.2.1.1 ≤ H.2.1.1 + (H'.2.1.1 - H.2.1.1); omega) (by show H'.2.1.2 ≤ H.2.1.2 + (H'.2.1.2 - H.2.1.2); omega) ?_ n 0 (ax_arg 0 vs) [] H s.heap [] 0 0 _ ad ⟨hP, hD, va_S.rf, hl, had, hle, hX, rfl, rfl, [], (List.append_nil ad).symm⟩ hn
    intro pc L S H2 Hm locs cells slots ls ad2 V hend
    obtain ⟨vP, vD, vS, vl, vad, vle, vX, vcc, vss, ex, rfl⟩ := V
    unfold ax_end at hend
    split at hend
    · rename_i i hi
      obtain ⟨M2, hM2, hmem2, hpc⟩ := ax_at_inv hi
      have e1 : M2 = M := Option.some.inj (hM2.symm.trans hj)
      subst e1
      have hPE := ax_ok_all M2 (List.mem_of_getElem? hj) i hmem2
      obtain ⟨pc2, ins, len, r1, r2, r3⟩ := i
      have hpc : pc2 = pc := hpc
      subst hpc
      have hrt : ax_ret j = M2.2.2.2.1 := by unfold ax_ret; rw [hj]
      have hlocs : ∀ q ∈ locs, A q.base := vS.2.2
      have done : ∀ (v9 : Option Value), H' = H2 → v = v9 → H'.2.1.1 - H.2.1.1 = cells ∧ H'.2.1.2 - H.2.1.2 = slots ∧ ∀ t : State, t.heap = Hm → s.WarmedH t.vm → ax_QQ D dA ro X ad A H' v ((vs.map (ax_cv ad ro)).toArray) s (.returned (v9.map (ax_cv (ad ++ ex) ro))) t := by
        intro v9 hH hv9
        subst hH
        subst hv9
        refine ⟨by omega, by omega, fun t ht _ => ⟨ex, rfl, by rw [ht]; exact vP, vD, vad, vle, vX, vS.F ht⟩⟩
      unfold ax_fin at hend
      simp only at hend
      split at hend
      · have hln : len = 1 := ax_nm_len hPE.2.2 (fun _ _ _ _ h => by cases h) (fun _ _ h => by cases h)
        subst hln
        have hd := hPE.1
        split at hend
        · rename_i x hrx
          cases hend
          obtain ⟨z1, z2, z3⟩ := done (some (.int x)) rfl rfl
          rw [z1, z2]
          exact W.iret hx hb (hr.trans (hrt.symm.trans hrx)) z3 hlocs hd hlocks
        · rename_i x hrx
          split at hend
          · rename_i hx01
            cases hend
            obtain ⟨z1, z2, z3⟩ := done (some (.int x)) rfl rfl
            rw [z1, z2]
            exact W.zret (ty := .boolean) hx hb (hr.trans (hrt.symm.trans hrx)) (by rcases hx01 with rfl | rfl <;> rfl) z3 hlocs hd hlocks
          · cases hend
        · cases hend
      · have hln : len = 1 := ax_nm_len hPE.2.2 (fun _ _ _ _ h => by cases h) (fun _ _ h => by cases h)
        subst hln
        have hd := hPE.1
        split at hend
        · rename_i x hrx
          cases hend
          obtain ⟨z1, z2, z3⟩ := done (some (.long x)) rfl rfl
          rw [z1, z2]
          exact W.lret hx hb (hr.trans (hrt.symm.trans hrx)) z3 hlocs hd hlocks
        · cases hend
      · have hln : len = 1 := ax_nm_len hPE.2.2 (fun _ _ _ _ h => by cases h) (fun _ _ h => by cases h)
        subst hln
        have hd := hPE.1
        split at hend
        · rename_i x nm hrx
          cases hend
          obtain ⟨z1, z2, z3⟩ := done (some (.ref x)) rfl rfl
          rw [z1, z2]
          exact W.aret hx hb (hr.trans (hrt.symm.trans hrx)) (Or.inl ⟨_, rfl⟩) (Or.inr ⟨_, rfl⟩) z3 hlocs hd hlocks
        · cases hend
      · have hln : len = 1 := ax_nm_len hPE.2.2 (fun _ _ _ _ h => by cases h) (fun _ _ h => by cases h)
        subst hln
        have hd := hPE.1
        split at hend
        · rename_i hrx
          cases hend
          obtain ⟨z1, z2, z3⟩ := done none rfl rfl
          rw [z1, z2]
          exact W.vret hx hb (hr.trans (hrt.symm.trans hrx)) z3 hlocs hd hlocks
        · cases hend
      · obtain ⟨-, hend⟩ := ax_bif hend
        split at hend <;> cases hend
      · cases hend
    · cases hend
