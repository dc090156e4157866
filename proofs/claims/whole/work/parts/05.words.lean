/-! Which words of the tables each instruction needs, and that they stand there -/
def lw_g : List Cond := lw_tbl.filter goodWord
theorem lw_g_of {w : Cond} (h : w ∈ lw_tbl) (hg : goodWord w = true) : w ∈ lw_g := List.mem_filter.mpr ⟨h, hg⟩
theorem lw_g_good : GoodIn lw_g lw_g := fun w h => ⟨h, good_of_word (List.mem_filter.mp h).2⟩
def ax_wf (own : String) (i r1 r2 : Nat) : List Cond := match vwCl[r1]? with
  | some (_, T, _) => [.fieldLink own i (T r2).1 (T r2).2.1 (T r2).2.2.1]
  | none => []
/-- the statics: class, name, descriptor -/
def ax_sn (a : Nat) : String × String × String :=
  bif Nat.beq a 1000001 then ("BargesByBreath$Rule", "LETTERS", "[C") else bif Nat.beq a 1000002 then ("BargesByBreath$Gossip", "LEAST_OF", "[I") else ("BargesByBreath$Gossip", "MOST_OF", "[I")
def ax_wd (own : String) (e : ax_I) : List Cond := match e with
  | (_, ins, _, r1, r2, r3) => match ins with
    | .ldc i => bif Nat.beq r2 0 then [.constant own i (Int32.ofNat r1)] else []
    | .ldc_w i => bif Nat.beq r2 0 then [.constant own i (Int32.ofNat r1)] else []
    | .ldc2_w i => [.constantLong own i (Int64.ofNat r1)]
    | .getfield i => ax_wf own i r1 r2
    | .putfield i => ax_wf own i r1 r2
    | .getstatic i => [.fieldLink own i (ax_sn r1).1 (ax_sn r1).2.1 (ax_sn r1).2.2]
    | .new i => match vwCl[r1]? with
      | some (C, _, N) => [.classLink own i C, .instantiable C N, .initialized C]
      | none => []
    | .newarray t => [.arrayClass (newarray.typeOf t)]
    | .invokevirtual i => match ax_mt[r1]? with
      | some M => [.methodLink own i M.1, .instanceMethod M.1, .selects M.1.cls M.1 M.1, .initialized M.1.cls]
      | none => []
    | .invokestatic i => bif Nat.beq r1 998 then [.methodLink own i arraycopyName, .native arraycopyName, .static arraycopyName, .initialized "java/lang/System"]
      else match ax_mt[r1]? with
      | some M => [.methodLink own i M.1, .static M.1, .initialized M.1.cls]
      | none => []
    | .invokespecial i => bif Nat.beq r1 999 then [.methodLink own i Lib.objectInit]
      else match ax_mt[r1]? with
      | some M => (bif Nat.beq r3 0 then [.methodLink own i M.1] else []) ++ [.instanceMethod M.1, .initialized M.1.cls]
      | none => []
    | _ => []
def ax_len (ins : Instr) : Nat := match ins with
  | .bipush _ => 2 | .ldc _ => 2 | .iload _ => 2 | .lload _ => 2 | .aload _ => 2 | .istore _ => 2 | .lstore _ => 2 | .astore _ => 2 | .newarray _ => 2
  | .sipush _ => 3 | .ldc_w _ => 3 | .ldc2_w _ => 3 | .iinc _ _ => 3 | .ifCond _ _ => 3 | .if_icmp _ _ => 3 | .goto _ => 3 | .getfield _ => 3 | .putfield _ => 3
  | .getstatic _ => 3 | .new _ => 3 | .invokevirtual _ => 3 | .invokestatic _ => 3 | .invokespecial _ => 3
  | _ => 1
/-- the five private makers that their nest's host calls -/
def ax_nest : List Cond := [.methodLinkNest "BargesByBreath" 9 ⟨"BargesByBreath$Script", "<init>", "()V"⟩ "BargesByBreath", .methodLinkNest "BargesByBreath" 46 ⟨"BargesByBreath$Past", "<init>", "()V"⟩ "BargesByBreath", .methodLinkNest "BargesByBreath" 53 ⟨"BargesByBreath$Gossip", "<init>", "()V"⟩ "BargesByBreath", .methodLinkNest "BargesByBreath" 60 ⟨"BargesByBreath$Draws", "<init>", "()V"⟩ "BargesByBreath", .methodLinkNest "BargesByBreath" 67 ⟨"BargesByBreath$Told", "<init>", "()V"⟩ "BargesByBreath"]
/-- a callee: its number of arguments, its class -/
def ax_cal (r1 r2 : Nat) (sp : Bool) : Bool := match ax_mt[r1]? with
  | some M => decide (M.1.cls ≠ "BargesByBreathLaw") && (decide (M.1.cls ≠ "java/lang/Math") && (decide (M.1.cls ≠ "java/lang/invoke/MethodHandle") && (decide (M.1.cls ≠ "java/lang/invoke/VarHandle") && (decide ((parseMethodDescriptor M.1.desc).map (fun d => d.parameters.length) = some (r2 % 100)) && (Nat.beq (r2 / 100) M.2.2.1 && (decide (M.1.name = "<init>") == sp))))))
  | none => false
def ax_nm (own nam : String) (mx : Nat) (e : ax_I) : Bool := match e with
  | (pc, ins, len, r1, r2, r3) => match ins with
    | .tableswitch d _ _ offs => decide (0 ≤ (pc : Int) + d) && offs.toList.all (fun o => decide (0 ≤ (pc : Int) + o))
    | .lookupswitch d ps => (ps.toList.zip (ps.toList.drop 1)).all (fun (a, next) => a.1 < next.1) && (decide (0 ≤ (pc : Int) + d) && ps.toList.all (fun o => decide (0 ≤ (pc : Int) + o.2)))
    | ins => Nat.beq len (ax_len ins) && match ins with
      | .istore_n k => Nat.blt k mx
      | .istore k => Nat.blt k mx
      | .astore_n k => Nat.blt k mx
      | .astore k => Nat.blt k mx
      | .lstore_n k => Nat.blt (k + 1) mx
      | .lstore k => Nat.blt (k + 1) mx
      | .iinc k _ => Nat.blt k mx
      | .ifCond _ o => decide ((pc : Int) + o = (r1 : Int))
      | .if_icmp _ o => decide ((pc : Int) + o = (r1 : Int))
      | .goto o => decide ((pc : Int) + o = (r1 : Int))
      | .getfield _ => match vwCl[r1]? with
        | some (_, _, N) => Nat.blt r2 N
        | none => false
      | .putfield _ => match vwCl[r1]? with
        | some (_, T, N) => Nat.blt r2 N && ((match parseFieldDescriptor (T r2).2.2.1 with
          | some .int => Nat.beq (r3 % 10) 0
          | some .boolean => Nat.beq (r3 % 10) 1
          | some (.object _) => Nat.beq (r3 % 10) 2
          | some (.array _) => Nat.beq (r3 % 10) 2
          | _ => false) && (!(T r2).2.2.2 || (decide (nam = "<init>") && decide ((T r2).1 = own))))
        | none => false
      | .getstatic _ => Nat.beq r1 1000001 || (Nat.beq r1 1000002 || Nat.beq r1 1000003)
      | .new _ => match vwCl[r1]? with
        | some (_, _, N) => Nat.beq r2 N
        | none => Nat.beq r1 990
      | .invokevirtual _ => ax_cal r1 r2 false && (match vwCl[r3]?, ax_mt[r1]? with
        | some (C, _, _), some M => decide (M.1.cls = C)
        | _, _ => false)
      | .invokestatic _ => Nat.beq r1 998 || (Nat.ble 1 r1 && Nat.ble r1 6 || ax_cal r1 r2 false)
      | .invokespecial i => Nat.beq r1 999 || (Nat.beq r1 989 || ax_cal r1 r2 true && (Nat.beq r3 0 || (match ax_mt[r1]? with
        | some M => decide (Cond.methodLinkNest own i M.1 "BargesByBreath" ∈ ax_nest)
        | none => false)))
      | _ => true
theorem lw_len : lw_tbl.length = 1651 := by decide +kernel
/-- all that is asked of a method's rows -/
def ax_PE (M : ax_M) (e : ax_I) : Prop := decode M.2.1 e.1 = .ok (e.2.1, e.2.2.1) ∧ (∀ w ∈ ax_wd M.1.cls e, w ∈ lw_g) ∧ ax_nm M.1.cls M.1.name M.2.2.1 e = true
theorem ax_pe_of {M : ax_M} (hs : List Nat) (h1 : (M.2.2.2.2.all fun e => decide (decode M.2.1 e.1 = .ok (e.2.1, e.2.2.1))) = true)
    (h2 : M.2.2.2.2.flatMap (ax_wd M.1.cls) = hs.map (fun i => lw_tbl.getD i .tt)) (h3 : hs.all (fun i => goodWord (lw_tbl.getD i .tt) && Nat.blt i 1651) = true) (h4 : M.2.2.2.2.all (ax_nm M.1.cls M.1.name M.2.2.1) = true) : ∀ e ∈ M.2.2.2.2, ax_PE M e := by
  intro e he
  refine ⟨of_decide_eq_true (List.all_eq_true.mp h1 e he), fun w hw => ?_, List.all_eq_true.mp h4 e he⟩
  have hm : w ∈ M.2.2.2.2.flatMap (ax_wd M.1.cls) := List.mem_flatMap.mpr ⟨e, he, hw⟩
  rw [h2] at hm
  obtain ⟨i, hi, rfl⟩ := List.mem_map.mp hm
  have hg := List.all_eq_true.mp h3 i hi
  simp only [Bool.and_eq_true] at hg
  refine lw_g_of ?_ hg.1
  have hl : i < lw_tbl.length := by rw [lw_len]; exact Nat.le_of_ble_eq_true hg.2
  rw [List.getD_eq_getElem?_getD, List.getElem?_eq_getElem hl]; exact List.getElem_mem hl
/-- a method that may be called: its code stands in the tables -/
def ax_cd (M : ax_M) : Prop := M.1.cls = "BargesByBreathLaw" ∨ M.1.cls = "java/lang/Math" ∨ (Cond.code M.1 M.2.1 M.2.2.1 M.2.2.2.1 ∈ lw_g ∧ plainName M.1.cls = true ∧ M.2.2.1 ≤ 21)
theorem ax_cd_of {M : ax_M} (i : Nat) (h : lw_tbl[i]? = some (Cond.code M.1 M.2.1 M.2.2.1 M.2.2.2.1)) (h2 : plainName M.1.cls = true) (h3 : M.2.2.1 ≤ 21) : ax_cd M := Or.inr (Or.inr ⟨lw_g_of (List.mem_of_getElem? h) rfl, h2, h3⟩)
theorem ax_in_0 : ∀ w ∈ u_ws RX0 TX0 2, w ∈ lw_g := fun w hw => ((goodIn_r (big := lw_tbl) _ [147, 149] (by decide +kernel) (by decide +kernel)) w hw).elim (fun h1 h2 => List.mem_filter.mpr ⟨h1, by obtain ⟨k, hk, rfl⟩ := List.mem_map.mp hw; unfold u_lay; split <;> rfl⟩)
theorem ax_in_1 : ∀ w ∈ u_ws RX1 TX1 1, w ∈ lw_g := fun w hw => ((goodIn_r (big := lw_tbl) _ [315] (by decide +kernel) (by decide +kernel)) w hw).elim (fun h1 h2 => List.mem_filter.mpr ⟨h1, by obtain ⟨k, hk, rfl⟩ := List.mem_map.mp hw; unfold u_lay; split <;> rfl⟩)
theorem ax_in_2 : ∀ w ∈ u_ws RX2 TX2 20, w ∈ lw_g := fun w hw => ((goodIn_r (big := lw_tbl) _ [229, 231, 233, 235, 237, 239, 241, 243, 245, 247, 249, 251, 253, 255, 257, 259, 261, 263, 265, 267] (by decide +kernel) (by decide +kernel)) w hw).elim (fun h1 h2 => List.mem_filter.mpr ⟨h1, by obtain ⟨k, hk, rfl⟩ := List.mem_map.mp hw; unfold u_lay; split <;> rfl⟩)
theorem ax_in_3 : ∀ w ∈ u_ws RX4 TX4 3, w ∈ lw_g := fun w hw => ((goodIn_r (big := lw_tbl) _ [301, 303, 305] (by decide +kernel) (by decide +kernel)) w hw).elim (fun h1 h2 => List.mem_filter.mpr ⟨h1, by obtain ⟨k, hk, rfl⟩ := List.mem_map.mp hw; unfold u_lay; split <;> rfl⟩)
theorem ax_in_4 : ∀ w ∈ u_ws RX5 TX5 4, w ∈ lw_g := fun w hw => ((goodIn_r (big := lw_tbl) _ [282, 284, 286, 288] (by decide +kernel) (by decide +kernel)) w hw).elim (fun h1 h2 => List.mem_filter.mpr ⟨h1, by obtain ⟨k, hk, rfl⟩ := List.mem_map.mp hw; unfold u_lay; split <;> rfl⟩)
theorem ax_in_5 : ∀ w ∈ u_ws RX6 TX6 6, w ∈ lw_g := fun w hw => ((goodIn_r (big := lw_tbl) _ [168, 170, 172, 174, 176, 178] (by decide +kernel) (by decide +kernel)) w hw).elim (fun h1 h2 => List.mem_filter.mpr ⟨h1, by obtain ⟨k, hk, rfl⟩ := List.mem_map.mp hw; unfold u_lay; split <;> rfl⟩)
theorem ax_in_6 : ∀ w ∈ u_ws RX7 TX7 4, w ∈ lw_g := fun w hw => ((goodIn_r (big := lw_tbl) _ [128, 130, 132, 134] (by decide +kernel) (by decide +kernel)) w hw).elim (fun h1 h2 => List.mem_filter.mpr ⟨h1, by obtain ⟨k, hk, rfl⟩ := List.mem_map.mp hw; unfold u_lay; split <;> rfl⟩)
theorem ax_in_7 : ∀ w ∈ u_ws RX8 TX8 2, w ∈ lw_g := fun w hw => ((goodIn_r (big := lw_tbl) _ [328, 330] (by decide +kernel) (by decide +kernel)) w hw).elim (fun h1 h2 => List.mem_filter.mpr ⟨h1, by obtain ⟨k, hk, rfl⟩ := List.mem_map.mp hw; unfold u_lay; split <;> rfl⟩)
theorem ax_in_8 : ∀ w ∈ u_ws RX9 TX9 9, w ∈ lw_g := fun w hw => ((goodIn_r (big := lw_tbl) _ [343, 345, 347, 349, 351, 353, 355, 357, 359] (by decide +kernel) (by decide +kernel)) w hw).elim (fun h1 h2 => List.mem_filter.mpr ⟨h1, by obtain ⟨k, hk, rfl⟩ := List.mem_map.mp hw; unfold u_lay; split <;> rfl⟩)
theorem ax_in_9 : ∀ w ∈ u_ws RX10 TX10 43, w ∈ lw_g := fun w hw => ((goodIn_r (big := lw_tbl) _ [1093, 1095, 1097, 1099, 1101, 1103, 1105, 1107, 1109, 1111, 1113, 1115, 1117, 1119, 1121, 1123, 1125, 1127, 1129, 1131, 1133, 1135, 1137, 1139, 1141, 1143, 1145, 1147, 1149, 1151, 1153, 1155, 1157, 1159, 1161, 1163, 1165, 1167, 1169, 1171, 1173, 1175, 1177] (by decide +kernel) (by decide +kernel)) w hw).elim (fun h1 h2 => List.mem_filter.mpr ⟨h1, by obtain ⟨k, hk, rfl⟩ := List.mem_map.mp hw; unfold u_lay; split <;> rfl⟩)
