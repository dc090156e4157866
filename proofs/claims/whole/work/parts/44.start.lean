/-! The law from its entry, out of what the small machine says of it -/
def R_law : String := "BargesByBreathLaw"
def lw_P (b : Addr) (xs : List Int32) (args : Array Value) (s : State) : Prop := args = #[.ref b] ∧ s.IntsAt b xs ∧ xs.length ≤ 2560 ∧ (Jvm.Cond.and given_1 narrow_1).before args s = true
def lw_Q (_ : Array Value) (s : State) (o : Outcome) (t : State) : Prop := o = .returned (some (.int 1)) ∧ Framed s o t [] 601024 7293034
def lw_Z (below : List Frame) (a : Array Value) (s : State) : State → Prop := fun t => ∃ o, t.status = .running ∧ Ended t below o ∧ lw_Q a s o t
/-- the law's own end, with 1 on the stack, nothing written that was there before, its room as the claim has it -/
theorem lw_ret {p : Program} {l : Launch} {e : Env} {s : State} {m : MethodId} {below : List Frame} {meth : Method} {c : Code} {b : Nat} (hx : p.tables.exec = Jvm.exec) (hb : c.code = code) (hr : meth.sig.returnType = ret) (hlocks : meth.locks = false) {pc : Nat} {H : Heap} {ls : Array Slot} (hdg : decode code pc = .ok (.ireturn, 1)) : W p l e room_1 s m #[Value.ref b] below meth c H [] 601024 7293034 (lw_Z below #[Value.ref b] s) (F0 m pc ls [.int 1]) := by
  intro T hT X
  obtain ⟨fs, hret, hrun, hended, hW, hframe⟩ := X.leave (v := some (.int 1)) (hlocks := hlocks) (fun h => by rw [hr] at h; cases h)
  have hmeth' : T.vm.method? m = some meth := X.method'
  refine ⟨T.setFrames fs, ?_, .returned (some (.int 1)), hrun, hended, rfl, ⟨_, rfl⟩, hW, hframe⟩
  jvm_step X.here [X.here.top, hx, hb, hdg, hmeth', hr, ret, narrow_b1]
  (try refine ⟨rfl, ?_⟩); (try refine ⟨rfl, ?_⟩)
  first | (intro acts; rw [hret _ acts rfl rfl rfl]) | rw [hret _ _ rfl rfl rfl]
  exact Steps.refl _
/-- what holds at the law's entry: the machine, the code, the tables' words (any of lw_tbl by 'hts w (by decide +kernel)'), the script of L ints xs at the cell b, what the Statement gives of the start (any of its parts by flat_of_before) -/
def lw_At (p : Program) (s : State) (m : MethodId) (meth : Method) (c : Code) (b L : Nat) (xs : Nat → Int32) : Prop :=
  p.tables.exec = Jvm.exec ∧ c.code = code ∧ meth.sig.returnType = ret ∧ c.maxLocals = 8 ∧ s.vm.findClass R_law = some m.cls ∧ (∀ w ∈ lw_tbl, w.before #[Value.ref b] s = true) ∧ va_X b L xs s s.heap ∧ b < s.heap.size ∧ meth.locks = false ∧ (Jvm.Cond.and given_1 narrow_1).before #[Value.ref b] s = true
theorem ax_g_tbl {w : Cond} (h : w ∈ lw_g) : w ∈ lw_tbl := (List.mem_filter.mp h).1
/-- what is owed of the small machine -/
def ax_Main : Prop := ∀ (L : Nat) (xs : Nat → Int32), L ≤ 2560 → ∃ (d : Nat) (H' : ax_H), d ≤ 1000 ∧ ev (d + 1) 7 0 [(0, .ref 1000000)] [] ([], (0, 0), (L, xs)) = some (H', some (some (.int 1))) ∧ H'.2.1.1 ≤ 601024 ∧ H'.2.1.2 ≤ 7293034
theorem ax_arr {args : Array Value} {s : State} {ty : FieldType} (h : (Cond.arrayClass ty).before args s = true) (hty : va_RA s = fun cA t => va_RA s cA t) : ∃ cA : ClassId, ArrOfT s cA ty ∧ s.vm.findClass ("[" ++ ty.toString) = some cA := by
  obtain ⟨cA, kA, comp, h1, h2, h3⟩ := Cond.arrayClass_spec h
  exact ⟨cA, fun n z => ⟨fun k h => (by cases h), kA, h2, comp, h3⟩, h1⟩
theorem ax_nest_tbl : ∀ w ∈ ax_nest, w ∈ lw_tbl ∧ w.onTables = true := by decide +kernel
theorem ax_xw_tbl : ∀ w ∈ ax_xw, w ∈ lw_tbl := by decide +kernel
theorem ax_str_tbl : ∀ q ∈ ax_str, Cond.stringRef "BargesByBreath" q.1 q.2 ∈ lw_tbl ∧ Cond.exactly (.string "BargesByBreath" q.1) "java/lang/String" ∈ flatC (Jvm.Cond.and given_1 narrow_1) := by decide +kernel
theorem ax_St0 {p : Program} {s : State} {m : MethodId} {meth : Method} {c : Code} {b L : Nat} {xs : Nat → Int32} (hL : L ≤ 2560) (C0 : lw_At p s m meth c b L xs) : ∃ (D : va_G) (dA : FieldType → ClassId) (ro : Nat → Nat), ro 0 = b ∧ ax_St D dA ro (L, xs) (fun q => s.heap.size ≤ q) s s.heap := by
  obtain ⟨hx, hb, hr, hml, hown, hts, hX, hbl, hlocks, hgv⟩ := id C0
  have hA : ∀ a : Nat, a < s.heap.size → ¬ (fun q : Nat => s.heap.size ≤ q) a := fun a h z => absurd h (Nat.not_lt.mpr z)
  obtain ⟨c0, iS0, hKn0⟩ := u_known (C := RX0) (T := TX0) (N := 2) (n := 2) hts (fun w hw => ax_g_tbl (ax_in_0 w hw)) (hts (.instantiable RX0 2) (List.mem_of_getElem? (i := 139) (by decide +kernel)))
  obtain ⟨c1, iS1, hKn1⟩ := u_known (C := RX1) (T := TX1) (N := 1) (n := 1) hts (fun w hw => ax_g_tbl (ax_in_1 w hw)) (hts (.instantiable RX1 1) (List.mem_of_getElem? (i := 309) (by decide +kernel)))
  obtain ⟨c2, iS2, hKn2⟩ := u_known (C := RX2) (T := TX2) (N := 20) (n := 20) hts (fun w hw => ax_g_tbl (ax_in_2 w hw)) (hts (.instantiable RX2 20) (List.mem_of_getElem? (i := 153) (by decide +kernel)))
  obtain ⟨c3, iS3, hKn3⟩ := u_known (C := RX4) (T := TX4) (N := 3) (n := 3) hts (fun w hw => ax_g_tbl (ax_in_3 w hw)) (hts (.instantiable RX4 3) (List.mem_of_getElem? (i := 292) (by decide +kernel)))
  obtain ⟨c4, iS4, hKn4⟩ := u_known (C := RX5) (T := TX5) (N := 4) (n := 4) hts (fun w hw => ax_g_tbl (ax_in_4 w hw)) (hts (.instantiable RX5 4) (List.mem_of_getElem? (i := 272) (by decide +kernel)))
  obtain ⟨c5, iS5, hKn5⟩ := u_known (C := RX6) (T := TX6) (N := 6) (n := 6) hts (fun w hw => ax_g_tbl (ax_in_5 w hw)) (hts (.instantiable RX6 6) (List.mem_of_getElem? (i := 155) (by decide +kernel)))
  obtain ⟨c6, iS6, hKn6⟩ := u_known (C := RX7) (T := TX7) (N := 4) (n := 4) hts (fun w hw => ax_g_tbl (ax_in_6 w hw)) (hts (.instantiable RX7 4) (List.mem_of_getElem? (i := 107) (by decide +kernel)))
  obtain ⟨c7, iS7, hKn7⟩ := u_known (C := RX8) (T := TX8) (N := 2) (n := 2) hts (fun w hw => ax_g_tbl (ax_in_7 w hw)) (hts (.instantiable RX8 2) (List.mem_of_getElem? (i := 319) (by decide +kernel)))
  obtain ⟨c8, iS8, hKn8⟩ := u_known (C := RX9) (T := TX9) (N := 9) (n := 9) hts (fun w hw => ax_g_tbl (ax_in_8 w hw)) (hts (.instantiable RX9 9) (List.mem_of_getElem? (i := 99) (by decide +kernel)))
  obtain ⟨c9, iS9, hKn9⟩ := u_known (C := RX10) (T := TX10) (N := 43) (n := 43) hts (fun w hw => ax_g_tbl (ax_in_9 w hw)) (hts (.instantiable RX10 43) (List.mem_of_getElem? (i := 1045) (by decide +kernel)))
  obtain ⟨a0, q0, r0⟩ := ax_arr (hts (.arrayClass .int) (List.mem_of_getElem? (i := 181) (by decide +kernel))) rfl
  obtain ⟨a1, q1, r1⟩ := ax_arr (hts (.arrayClass .byte) (List.mem_of_getElem? (i := 1025) (by decide +kernel))) rfl
  obtain ⟨a2, q2, r2⟩ := ax_arr (hts (.arrayClass .char) (List.mem_of_getElem? (i := 137) (by decide +kernel))) rfl
  obtain ⟨a3, q3, r3⟩ := ax_arr (hts (.arrayClass .boolean) (List.mem_of_getElem? (i := 270) (by decide +kernel))) rfl
  obtain ⟨a4, q4, r4⟩ := ax_arr (hts (.arrayClass .long) (List.mem_of_getElem? (i := 333) (by decide +kernel))) rfl
  have hs := flat_of_before _ hgv
  obtain ⟨t1, ht1, hT1⟩ := va_Tof (args := #[Value.ref b]) (s := s) (tm := .static "BargesByBreath$Rule" "LETTERS" "[C") (ty := .char) (N := 6) (f := fun j => .int (([98, 108, 99, 112, 109, 110] : List Int32).getD j 0)) (A := fun q : Nat => s.heap.size ≤ q) (by decide) (hs _ (by decide +kernel)) (va_eqt (hs (.eq (.length (.static "BargesByBreath$Rule" "LETTERS" "[C")) (.int 6)) (by decide +kernel))) (fun j hj => by
    rcases (show j = 0 ∨ j = 1 ∨ j = 2 ∨ j = 3 ∨ j = 4 ∨ j = 5 by omega) with rfl | rfl | rfl | rfl | rfl | rfl
    · exact va_eqt (hs (.eq (.elem (.static "BargesByBreath$Rule" "LETTERS" "[C") (.int 0)) (.int 98)) (by decide +kernel))
    · exact va_eqt (hs (.eq (.elem (.static "BargesByBreath$Rule" "LETTERS" "[C") (.int 1)) (.int 108)) (by decide +kernel))
    · exact va_eqt (hs (.eq (.elem (.static "BargesByBreath$Rule" "LETTERS" "[C") (.int 2)) (.int 99)) (by decide +kernel))
    · exact va_eqt (hs (.eq (.elem (.static "BargesByBreath$Rule" "LETTERS" "[C") (.int 3)) (.int 112)) (by decide +kernel))
    · exact va_eqt (hs (.eq (.elem (.static "BargesByBreath$Rule" "LETTERS" "[C") (.int 4)) (.int 109)) (by decide +kernel))
    · exact va_eqt (hs (.eq (.elem (.static "BargesByBreath$Rule" "LETTERS" "[C") (.int 5)) (.int 110)) (by decide +kernel))
    ) hA
  have hZ1 : va_Z "BargesByBreath$Rule" "LETTERS" "[C" (.ref t1) (fun q : Nat => s.heap.size ≤ q) s s.heap := va_Zref (hts (.laysStatic "BargesByBreath$Rule" "LETTERS" "[C") (List.mem_of_getElem? (i := 161) (by decide +kernel))) (hts (.initialized "BargesByBreath$Rule") (List.mem_of_getElem? (i := 84) (by decide +kernel))) ht1 hA
  obtain ⟨t2, ht2, hT2⟩ := va_Tof (args := #[Value.ref b]) (s := s) (tm := .static "BargesByBreath$Gossip" "LEAST_OF" "[I") (ty := .int) (N := 5) (f := fun j => .int (([1, 0, 0, 0, 0] : List Int32).getD j 0)) (A := fun q : Nat => s.heap.size ≤ q) (by decide) (hs _ (by decide +kernel)) (va_eqt (hs (.eq (.length (.static "BargesByBreath$Gossip" "LEAST_OF" "[I")) (.int 5)) (by decide +kernel))) (fun j hj => by
    rcases (show j = 0 ∨ j = 1 ∨ j = 2 ∨ j = 3 ∨ j = 4 by omega) with rfl | rfl | rfl | rfl | rfl
    · exact va_eqt (hs (.eq (.elem (.static "BargesByBreath$Gossip" "LEAST_OF" "[I") (.int 0)) (.int 1)) (by decide +kernel))
    · exact va_eqt (hs (.eq (.elem (.static "BargesByBreath$Gossip" "LEAST_OF" "[I") (.int 1)) (.int 0)) (by decide +kernel))
    · exact va_eqt (hs (.eq (.elem (.static "BargesByBreath$Gossip" "LEAST_OF" "[I") (.int 2)) (.int 0)) (by decide +kernel))
    · exact va_eqt (hs (.eq (.elem (.static "BargesByBreath$Gossip" "LEAST_OF" "[I") (.int 3)) (.int 0)) (by decide +kernel))
    · exact va_eqt (hs (.eq (.elem (.static "BargesByBreath$Gossip" "LEAST_OF" "[I") (.int 4)) (.int 0)) (by decide +kernel))
    ) hA
  have hZ2 : va_Z "BargesByBreath$Gossip" "LEAST_OF" "[I" (.ref t2) (fun q : Nat => s.heap.size ≤ q) s s.heap := va_Zref (hts (.laysStatic "BargesByBreath$Gossip" "LEAST_OF" "[I") (List.mem_of_getElem? (i := 843) (by decide +kernel))) (hts (.initialized "BargesByBreath$Gossip") (List.mem_of_getElem? (i := 86) (by decide +kernel))) ht2 hA
  obtain ⟨t3, ht3, hT3⟩ := va_Tof (args := #[Value.ref b]) (s := s) (tm := .static "BargesByBreath$Gossip" "MOST_OF" "[I") (ty := .int) (N := 5) (f := fun j => .int (([9, 3, 1, 9, 9] : List Int32).getD j 0)) (A := fun q : Nat => s.heap.size ≤ q) (by decide) (hs _ (by decide +kernel)) (va_eqt (hs (.eq (.length (.static "BargesByBreath$Gossip" "MOST_OF" "[I")) (.int 5)) (by decide +kernel))) (fun j hj => by
    rcases (show j = 0 ∨ j = 1 ∨ j = 2 ∨ j = 3 ∨ j = 4 by omega) with rfl | rfl | rfl | rfl | rfl
    · exact va_eqt (hs (.eq (.elem (.static "BargesByBreath$Gossip" "MOST_OF" "[I") (.int 0)) (.int 9)) (by decide +kernel))
    · exact va_eqt (hs (.eq (.elem (.static "BargesByBreath$Gossip" "MOST_OF" "[I") (.int 1)) (.int 3)) (by decide +kernel))
    · exact va_eqt (hs (.eq (.elem (.static "BargesByBreath$Gossip" "MOST_OF" "[I") (.int 2)) (.int 1)) (by decide +kernel))
    · exact va_eqt (hs (.eq (.elem (.static "BargesByBreath$Gossip" "MOST_OF" "[I") (.int 3)) (.int 9)) (by decide +kernel))
    · exact va_eqt (hs (.eq (.elem (.static "BargesByBreath$Gossip" "MOST_OF" "[I") (.int 4)) (.int 9)) (by decide +kernel))
    ) hA
  have hZ3 : va_Z "BargesByBreath$Gossip" "MOST_OF" "[I" (.ref t3) (fun q : Nat => s.heap.size ≤ q) s s.heap := va_Zref (hts (.laysStatic "BargesByBreath$Gossip" "MOST_OF" "[I") (List.mem_of_getElem? (i := 845) (by decide +kernel))) (hts (.initialized "BargesByBreath$Gossip") (List.mem_of_getElem? (i := 86) (by decide +kernel))) ht3 hA
  refine ⟨(fun k => if k = 0 then c0 else if k = 1 then c1 else if k = 2 then c2 else if k = 3 then c3 else if k = 4 then c4 else if k = 5 then c5 else if k = 6 then c6 else if k = 7 then c7 else if k = 8 then c8 else c9, fun k => if k = 0 then iS0 else if k = 1 then iS1 else if k = 2 then iS2 else if k = 3 then iS3 else if k = 4 then iS4 else if k = 5 then iS5 else if k = 6 then iS6 else if k = 7 then iS7 else if k = 8 then iS8 else iS9), (fun t => match t with | .int => a0 | .byte => a1 | .char => a2 | .boolean => a3 | _ => a4), (fun k => match k with | 0 => b | 1 => t1 | 2 => t2 | 3 => t3 | _ => 0), rfl, ⟨?_, ?_⟩, ?_, ?_, ?_, ⟨?_, ?_⟩, ?_, ?_⟩
  · intro k q hq
    match k, hq with
    | 0, hq => cases hq; exact hKn0
    | 1, hq => cases hq; exact hKn1
    | 2, hq => cases hq; exact hKn2
    | 3, hq => cases hq; exact hKn3
    | 4, hq => cases hq; exact hKn4
    | 5, hq => cases hq; exact hKn5
    | 6, hq => cases hq; exact hKn6
    | 7, hq => cases hq; exact hKn7
    | 8, hq => cases hq; exact hKn8
    | 9, hq => cases hq; exact hKn9
    | k + 10, hq => simp [vwCl] at hq
  · intro k q hq
    match k, hq with
    | 0, hq => cases hq; exact ⟨q0, r0⟩
    | 1, hq => cases hq; exact ⟨q1, r1⟩
    | 2, hq => cases hq; exact ⟨q2, r2⟩
    | 3, hq => cases hq; exact ⟨q3, r3⟩
    | 4, hq => cases hq; exact ⟨q4, r4⟩
    | k + 5, hq => simp [ax_ty] at hq
  · exact fun w hw => va_Nw.of (ax_nest_tbl w hw).2 (hts w (ax_nest_tbl w hw).1)
  · obtain ⟨scr, h1, h2, h3, h4, h5⟩ := hX
    exact ⟨scr, h1, h2, h3, Nat.le_of_eq h4.symm, congrArg Nat.toInt32 h4, h5, hA b hbl⟩
  · intro k ty n f hr9
    unfold ax_rom at hr9
    cases z1 : Nat.beq (1000000 + k) 1000001 with
    | true =>
      rw [z1] at hr9
      have hk : k = 1 := by have := Nat.eq_of_beq_eq_true z1; omega
      subst hk
      cases hr9
      exact ⟨hT1, hZ1⟩
    | false =>
    rw [z1] at hr9
    cases z2 : Nat.beq (1000000 + k) 1000002 with
    | true =>
      rw [z2] at hr9
      have hk : k = 2 := by have := Nat.eq_of_beq_eq_true z2; omega
      subst hk
      cases hr9
      exact ⟨hT2, hZ2⟩
    | false =>
    rw [z2] at hr9
    cases z3 : Nat.beq (1000000 + k) 1000003 with
    | true =>
      rw [z3] at hr9
      have hk : k = 3 := by have := Nat.eq_of_beq_eq_true z3; omega
      subst hk
      cases hr9
      exact ⟨hT3, hZ3⟩
    | false =>
      rw [z3] at hr9
      cases hr9
  · exact vx_Zqof (hts _ (List.mem_of_getElem? (i := 987) (by decide +kernel))) (hts _ (List.mem_of_getElem? (i := 91) (by decide +kernel))) (hs _ (by decide +kernel)) hA
  · exact vx_Zqof (hts _ (List.mem_of_getElem? (i := 989) (by decide +kernel))) (hts _ (List.mem_of_getElem? (i := 91) (by decide +kernel))) (hs _ (by decide +kernel)) hA
  · exact fun w hw => va_Nw.of (ax_xw_ot w hw) (hts w (ax_xw_tbl w hw))
  · intro q hq
    obtain ⟨a, c9, cA, kA, e1, -⟩ := Cond.exactly_spec (args := #[Value.ref b]) (first := s) (o := none) (s := s) (idx := []) (t := .string "BargesByBreath" q.1) (cls := "java/lang/String") (hs _ (ax_str_tbl q hq).2)
    exact ⟨a, vk_R.of (A := #[Value.ref b]) (hts _ (ax_str_tbl q hq).1) e1⟩
abbrev ax_Mlaw : ax_M := (⟨"BargesByBreathLaw", "law", "([I)Z"⟩, code, 8, some .boolean, tb_7)
theorem whole_start {p : Program} {e : Env} {s : State} {m : MethodId} {below : List Frame} {meth : Method} {c : Code} (hm : ax_Main) (l : Launch) (hst : l.stackTraces = false) {b L : Nat} {xs : Nat → Int32} (hL : L ≤ 2560) (C0 : lw_At p s m meth c b L xs) : W p l e room_1 s m #[Value.ref b] below meth c s.heap [] 0 0 (lw_Z below #[Value.ref b] s) (entryFrame m ([Value.ref b] : List Value).toArray 8) := by
  obtain ⟨D, dA, ro, hro, hSt⟩ := ax_St0 hL C0
  obtain ⟨hx, hb, hr, hml, hown, hts, hX, hbl, hlocks, hgv⟩ := id C0
  obtain ⟨d, H', hd, he, hc, hs⟩ := hm L xs hL
  obtain ⟨n, hn⟩ := ev_it he
  have hA : ∀ q : Nat, s.heap.size ≤ q → (fun q : Nat => s.heap.size ≤ q) q := fun _ h => h
  have hj : ax_mt[7]? = some ax_Mlaw := by rfl
  have hl := lv_entry ([.ref b]) (n := 8) (Nat.le_of_ble_eq_true rfl)
  rw [lg_entry_eq]
  have C : ax_CT D dA ro (L, xs) (fun q => s.heap.size ≤ q) p room_1 s m #[Value.ref b] meth c ax_Mlaw (d + 1) := ⟨hx, hb, hml, hown, fun w hw => hts w (ax_g_tbl hw), fun h => absurd h (by show ¬ ("law" = "<init>"); decide), hA, hSt, by show 2 * (d + 1) + 20 ≤ 2048; omega, by show 80 * (d + 1) + 200 ≤ 84000; omega⟩
  have hcv : (ax_cv [] ro (.ref 1000000)) = .ref b := by rw [← hro]; rfl
  generalize (lg_sl ([Value.ref b]) ++ List.replicate (8 - (lg_sl ([Value.ref b])).length) Slot.unset).toArray = ls0 at hl ⊢
  have hl2 : lv_has ls0 8 (ax_cl [] ro [(0, .ref 1000000)]) := by
    show lv_has ls0 8 [(0, ax_cv [] ro (.ref 1000000))]
    rw [hcv]; exact hl
  have hP0 : va_P D vwCl (ax_cw dA [] ro []) s.heap := fun k q h => by simp [ax_cw] at h
  have hD0 : va_D (fun q : Nat => s.heap.size ≤ q) (ax_cw dA [] ro []) := ⟨fun i j p q h => by simp [ax_cw] at h, fun k q h => by simp [ax_cw] at h⟩
  have V : ax_IV D dA ro (L, xs) (fun q => s.heap.size ≤ q) s 8 0 0 [] [(0, .ref 1000000)] ([], (0, 0), (L, xs)) s.heap [] 0 0 ls0 [] := ⟨hP0, hD0, va_S.rf, hl2, rfl, Nat.zero_le _, rfl, rfl, rfl, [], rfl⟩
  refine ax_walk (c0 := 0) (s0 := 0) (ad0 := []) (r := (H', some (some (.int 1)))) (ax_snd l d) hj (ax_hwr hst (ax_ok_all _ (List.mem_of_getElem? hj)) C (by show 2 * (d + 2) + 20 ≤ 2048; omega) (by show 80 * (d + 2) + 200 ≤ 84000; omega)) C (by show H'.2.1.1 ≤ 0 + 601024; omega) (by show H'.2.1.2 ≤ 0 + 7293034; omega) ?_ n 0 [(0, .ref 1000000)] [] ([], (0, 0), (L, xs)) s.heap [] 0 0 ls0 [] V hn
  intro pc L2 S H2 Hm locs cells slots ls ad V2 hend
  obtain ⟨vP, vD, vS, vl, vad, vle, vX, vcc, vss, -⟩ := V2
  unfold ax_end at hend
  split at hend
  · rename_i i hi
    obtain ⟨M2, hM2, hmem2, hpc⟩ := ax_at_inv hi
    have e1 : M2 = ax_Mlaw := Option.some.inj (hM2.symm.trans hj)
    subst e1
    have hPE := ax_ok_all _ (List.mem_of_getElem? hj) i hmem2
    obtain ⟨pc2, ins, len, r1, r2, r3⟩ := i
    have hpc : pc2 = pc := hpc
    subst hpc
    have hrt : ax_ret 7 = some .boolean := by decide +kernel
    unfold ax_fin at hend
    simp only [hrt] at hend
    split at hend
    · have hln : len = 1 := ax_nm_len hPE.2.2 (fun _ _ _ _ h => by cases h) (fun _ _ h => by cases h)
      subst hln
      split at hend
      · rename_i hh
        cases hh
      · split at hend
        · cases hend
          refine va_forget (fun q hq => vS.2.2 q hq) ?_
          refine W.widen (k := 601024) (n := 7293034) (by omega) (by omega) ?_
          exact lw_ret hx hb hr hlocks hPE.1
        · cases hend
      · cases hend
    · cases hend
    · cases hend
    · cases hend
    · obtain ⟨-, hend⟩ := ax_bif hend
      split at hend <;> cases hend
    · cases hend
  · cases hend
set_option maxHeartbeats 4000000 in
theorem lw_walk (hm : ax_Main) (l : Launch) (hst : l.stackTraces = false) (b : Addr) (xs : List Int32) : MetFree l x (headSpec (Jvm.Cond.code x code maxLocals ret :: tables_1) room_1) (lw_P b xs) (fun _ _ _ _ _ => True) lw_Q := by
  refine MetFree.of_bodyS (code := code) (maxLocals := maxLocals) (ret := ret) (by decide) ?_ ?_
  · intro args s m h hn
    obtain ⟨meth, c, h1, h2, h3, h4, h5, h6, -, -⟩ := Cond.code_spec hn (atoms_spec (ws := Jvm.Cond.code x code maxLocals ret :: tables_1) h _ List.mem_cons_self)
    exact ⟨meth, c, h1, h2, h3, h4, h5, h6⟩
  · intro p e s m args below meth c s₁ B hml0 hP _
    obtain ⟨rfl, hx, hbd, hgv⟩ := hP
    obtain ⟨scr, harrAt, hlist, hof, hsmall⟩ := hx
    obtain ⟨hcb, hkn, -, -⟩ := State.arrayAt?_spec harrAt
    have hown : s.vm.findClass R_law = some m.cls := findClass_of_methodNamed B.named
    have hts0 : ∀ c ∈ (Jvm.Cond.code x code maxLocals ret :: tables_1), c.before #[Value.ref b] s = true := atoms_spec (ws := Jvm.Cond.code x code maxLocals ret :: tables_1) B.pre
    have hts : ∀ w ∈ lw_tbl, w.before #[Value.ref b] s = true := k2_hts_sels lw_privs (fun w hw => hts0 w (List.mem_cons_of_mem _ hw)) lw_privs_ok
    have hml : c.maxLocals = 8 := B.maxLocals_eq (hts0 _ List.mem_cons_self)
    have X₀ : Stand p l e room_1 s m #[Value.ref b] below meth c s₁ [] 0 0 := Stand.of_body B
    have hh0 : s₁.heap = s.heap := by rw [B.state]; rfl
    have hsz : scr.slots.size = xs.length := by rw [← Array.length_toList, hlist, List.length_map]
    have hval : ∀ j : Nat, j < xs.length → scr.slots[j]? = some (.int (xs.getD j 0)) := fun j hj => by
      rw [← Array.getElem?_toList, hlist]
      simp [hj]
    have hbl : b < s.heap.size := (Array.getElem?_eq_some_iff.mp hcb).1
    have hX : va_X b xs.length (fun j => xs.getD j 0) s s.heap := ⟨scr, hcb, hof, hkn, hsz, hval⟩
    have K : W p l e room_1 s m #[Value.ref b] below meth c s₁.heap [] 0 0 (lw_Z below #[Value.ref b] s) (entryFrame m ([Value.ref b] : List Value).toArray 8) := by
      rw [hh0]
      exact whole_start hm l hst hbd ⟨B.exec, B.bytes, B.returns, hml, hown, hts, hX, hbl, B.notSynchronized, hgv⟩
    obtain ⟨t, a1, o, b1, b2, b3⟩ := K s₁ rfl X₀
    exact ⟨t, o, a1, b1, b2, b3⟩
theorem lw_pre_spec {args : Array Value} {s : State} (h : (Jvm.Cond.and given_1 narrow_1).before args s = true) (hr : rest_1_c.before args s = true) : ∃ (b : Addr) (xs : List Int32), lw_P b xs args s := by
  have hs := flat_of_before _ h
  have hq := flat_of_before _ hr
  have hc : (Cond.count 1).before args s = true := hs _ (by decide +kernel)
  have harr : (Cond.arrayOf (.arg 0) .int).before args s = true := hs _ (by decide +kernel)
  have hle : (Cond.le (.length (.arg 0)) (.int 2560)).before args s = true := hs _ (by decide +kernel)
  have hlen : (Cond.isInt (.length (.arg 0))).before args s = true := hq _ (by decide +kernel)
  have hall : (Cond.all (.arg 0) (.isInt (.elem (.arg 0) (.index 0)))).before args s = true := hq _ (by decide +kernel)
  obtain ⟨b, xs, hb, hx⟩ := State.ints_of_pre rfl harr hlen hall
  have hsm : xs.length < 2 ^ 31 := hx.choose_spec.2.2.2
  have hev : (Term.length (.arg 0)).eval args s none [] s = some (.int xs.length.toInt32) := hx.length_eval hb
  have hv := Cond.le_ints hev (show (Term.int 2560).eval args s none [] s = some (.int 2560) from rfl)
  have hd : xs.length.toInt32 ≤ 2560 := by
    simpa [Cond.before, Cond.holds, hv] using hle
  have hN : xs.length ≤ 2560 := (Int32.ofNat_le_ofNat hsm (by decide)).mp (show Int32.ofNat xs.length ≤ Int32.ofNat 2560 from hd)
  exact ⟨b, xs, Cond.one_arg hc (show args[0]? = some (.ref b) from hb), hx, hN, h⟩
theorem lw_comes (hm : ax_Main) (l : Launch) (hst : l.stackTraces = false) : Comes l x (Jvm.Cond.code x code maxLocals ret :: tables_1) room_1 (fun tb e args s => Calls_1 tb e args s ∧ rest_1 tb e args s ∧ Pre_1 tb e args s)
    (fun _ _ args s o t => lw_Q args s o t) := by
  intro p e ha hc hk s m args below hf hfit hheap happ hpre
  obtain ⟨b, xs, hP⟩ := lw_pre_spec hpre.2.2 hpre.2.1
  obtain ⟨k, o, h1, h2, h3, hQ⟩ := lw_walk hm l hst b xs p e ha hc hk s m args below hf ((Spec.applies_iff_loose hf).mp happ).1 hP trivial
  exact ⟨k, o, h1, h2, h3, hQ⟩
theorem lw_frame {s t : State} {o : Outcome} {args : Array Value} (h : Framed s o t [] 601024 7293034) :
    Framed s o t (fieldLocs frame_1_writes args s ++ arrayLocs frame_1_arrays args s ++ staticLocs frame_1_statics s) 601024 7293034 := h
theorem lw_limb (hm : ax_Main) (L : Cond) (hL : ∀ (args : Array Value) (s t : State), L.after args s (.returned (some (.int 1))) t = true) :
    ArmFor flags0 classFile x code maxLocals ret World_1 tables_1 room_1 Calls_1 rest_1 Pre_1
      (fun tb e a s o t => postC L tb e a s o t ∧ Framed s o t (fieldLocs frame_1_writes a s ++ arrayLocs frame_1_arrays a s ++ staticLocs frame_1_statics s) 601024 7293034) := by
  intro l hfl _ _ p e ha hc hk s m args below hf hfit hheap happ hpre
  obtain ⟨k, o, h1, h2, h3, rfl, hF⟩ := lw_comes hm l (by unfold Launch.stackTraces; rw [hfl]; decide +kernel) p e ha hc hk s m args below hf hfit hheap happ hpre
  exact ⟨k, _, h1, h2, h3, hL args s _, lw_frame hF⟩
