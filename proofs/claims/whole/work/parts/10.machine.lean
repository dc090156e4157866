/-! A machine of our own, small and pure: cells by their places, locals in order, no addresses, no tables. What it does, the JVM does (part 06). -/
abbrev ax_L : Type := List (Nat × Value)
abbrev ax_E : Type := (FieldType × vp_A) ⊕ (Nat × List Value)
/-- the cells; how many cells and slots were made; the script -/
abbrev ax_H : Type := List ax_E × (Nat × Nat) × (Nat × (Nat → Int32))
/-- an index within a row -/
def ax_ix (i : Int32) (n : Nat) : Bool := decide (¬ (i < 0 ∨ n ≤ i.toNatClampNeg))
theorem ax_ix_in {i : Int32} {n : Nat} (h : ax_ix i n = true) : vp_in i n := (of_decide_eq_true (p := ¬ (i < 0 ∨ n ≤ i.toNatClampNeg)) h)
theorem ax_ix_of {i : Int32} {n : Nat} (h : vp_in i n) : ax_ix i n = true := decide_eq_true (p := ¬ (i < 0 ∨ n ≤ i.toNatClampNeg)) h
def ax_get : ax_L → Nat → Option Value
  | [], _ => none
  | q :: r, i => bif Nat.beq q.1 i then some q.2 else ax_get r i
def ax_flt1 (i : Nat) (L : ax_L) : ax_L := L.filter (fun q => !(q.1 == i) && !(q.1 + 1 == i && q.2.category == 2))
def ax_flt2 (i : Nat) (L : ax_L) : ax_L := L.filter (fun q => !(q.1 == i) && (!(q.1 == i + 1) && !(q.1 + 1 == i && q.2.category == 2)))
def ax_srt (i : Nat) (v : Value) : ax_L → ax_L
  | [] => [(i, v)]
  | q :: r => bif Nat.ble i q.1 then (i, v) :: q :: r else q :: ax_srt i v r
def ax_set1 (L : ax_L) (i : Nat) (v : Value) : ax_L := ax_srt i v (ax_flt1 i L)
def ax_set2 (L : ax_L) (i : Nat) (v : Value) : ax_L := ax_srt i v (ax_flt2 i L)
/-- the statics that are read: rows of numbers that nothing writes -/
def ax_rom (a : Nat) : Option (FieldType × Nat × (Nat → Int32)) :=
  bif Nat.beq a 1000001 then some (.char, 6, fun k => ([98, 108, 99, 112, 109, 110] : List Int32).getD k 0)
  else bif Nat.beq a 1000002 then some (.int, 5, fun k => ([1, 0, 0, 0, 0] : List Int32).getD k 0)
  else bif Nat.beq a 1000003 then some (.int, 5, fun k => ([9, 3, 1, 9, 9] : List Int32).getD k 0)
  else none
/-- a row of numbers that is read: the script, a static, a cell -/
def ax_row (H : ax_H) (a : Nat) : Option (FieldType × Nat × (Nat → Int32)) :=
  bif Nat.ble 1000000 a then (bif Nat.beq a 1000000 then some (.int, H.2.2) else ax_rom a)
  else match H.1[a]? with
    | some (.inl (ty, n, .inl f)) => some (ty, n, f)
    | _ => none
def ax_rowL (H : ax_H) (a : Nat) : Option (Nat × (Nat → Int64)) :=
  bif Nat.ble 1000000 a then none
  else match H.1[a]? with
    | some (.inl (.long, n, .inr (.inl f))) => some (n, f)
    | _ => none
def ax_obj (H : ax_H) (a c : Nat) : Option (List Value) :=
  bif Nat.ble 1000000 a then none
  else match H.1[a]? with
    | some (.inr (k, fs)) => bif Nat.beq k c then some fs else none
    | _ => none
def ax_put (H : ax_H) (a : Nat) (e : ax_E) : ax_H := (H.1.set a e, H.2)
def ax_new (H : ax_H) (e : ax_E) (n : Nat) : ax_H := (H.1 ++ [e], (H.2.1.1 + 1, H.2.1.2 + n), H.2.2)
/-- what an object of class c begins with -/
def ax_def (c : Nat) : List Value := match c with
  | 0 => [.null, .int 0]
  | 1 => [.int 0]
  | 2 => [.null, .null, .int 0, .int 0, .int 0, .int 0, .null, .null, .null, .null, .null, .null, .null, .null, .int 0, .null, .null, .null, .null, .null]
  | 3 => [.null, .null, .int 0]
  | 4 => [.null, .null, .int 0, .int 0]
  | 5 => [.null, .null, .null, .null, .int 0, .int 0]
  | 6 => [.null, .int 0, .int 0, .int 0]
  | 7 => [.null, .int 0]
  | 8 => [.null, .null, .null, .null, .null, .null, .null, .null, .null]
  | 9 => [.null, .int 0, .int 0, .int 0, .null, .null, .null, .int 0, .null, .int 0, .int 0, .null, .int 0, .int 0, .int 0, .int 0, .null, .null, .null, .int 0, .int 0, .null, .null, .int 0, .null, .null, .null, .null, .null, .int 0, .int 0, .null, .null, .int 0, .null, .null, .int 0, .null, .int 0, .int 0, .null, .null, .null]
  | _ => []
/-- references that lie among the first n cells, or beside them -/
def ax_vv (n : Nat) (v : Value) : Bool := match v with
  | .ref k => Nat.blt k n || Nat.ble 1000000 k
  | _ => true
def ax_vl (n : Nat) (L : ax_L) (S : List Value) : Bool := L.all (fun q => ax_vv n q.2) && S.all (ax_vv n)
def ax_vh (n : Nat) (l : List ax_E) : Bool := l.all fun e => match e with
  | .inr (_, fs) => fs.all (ax_vv n)
  | .inl _ => true
def ax_wid (S : List Value) : Nat := (S.map fun v => v.category).sum
abbrev ax_S : Type := Nat × ax_L × List Value × ax_H
def ax_ld (L : ax_L) (i pc : Nat) (S : List Value) (H : ax_H) (k : Nat) : Option ax_S := match ax_get L i, k with
  | some (.int x), 0 => some (pc, L, .int x :: S, H)
  | some (.long x), 1 => some (pc, L, .long x :: S, H)
  | some (.ref x), 2 => some (pc, L, .ref x :: S, H)
  | _, _ => none
def ax_st (L : ax_L) (i pc : Nat) (S : List Value) (H : ax_H) (k : Nat) : Option ax_S := match S, k with
  | .int x :: r, 0 => some (pc, ax_set1 L i (.int x), r, H)
  | .long x :: r, 1 => some (pc, ax_set2 L i (.long x), r, H)
  | .ref x :: r, 2 => some (pc, ax_set1 L i (.ref x), r, H)
  | _, _ => none
def ax_i2 (L : ax_L) (pc : Nat) (S : List Value) (H : ax_H) (f : Int32 → Int32 → Int32) : Option ax_S := match S with
  | .int y :: .int x :: r => some (pc, L, .int (f x y) :: r, H)
  | _ => none
def ax_i1 (L : ax_L) (pc : Nat) (S : List Value) (H : ax_H) (f : Int32 → Int32) : Option ax_S := match S with
  | .int x :: r => some (pc, L, .int (f x) :: r, H)
  | _ => none
def ax_l2 (L : ax_L) (pc : Nat) (S : List Value) (H : ax_H) (f : Int64 → Int64 → Int64) : Option ax_S := match S with
  | .long y :: .long x :: r => some (pc, L, .long (f x y) :: r, H)
  | _ => none
def ax_cnd (c : ClassFile.Cond) (x y : Int32) (a b : Nat) : Nat := match c with
  | .eq => if x = y then a else b
  | .ne => if x = y then b else a
  | .lt => if x < y then a else b
  | .ge => if y ≤ x then a else b
  | .gt => if y < x then a else b
  | .le => if x ≤ y then a else b
/-- a load out of a row of numbers -/
def ax_al (L : ax_L) (pc : Nat) (S : List Value) (H : ax_H) (ok : FieldType → Bool) : Option ax_S := match S with
  | .int i :: .ref a :: r => match ax_row H a with
    | some (ty, n, f) => bif ok ty then (bif ax_ix i n then some (pc, L, .int (f i.toNatClampNeg) :: r, H) else none) else none
    | none => none
  | _ => none
/-- a store into a row of numbers -/
def ax_as (L : ax_L) (pc : Nat) (S : List Value) (H : ax_H) (ok : FieldType → Bool) : Option ax_S := match S with
  | .int x :: .int i :: .ref a :: r => bif Nat.ble 1000000 a then none else match H.1[a]? with
    | some (.inl (ty, n, .inl f)) => bif ok ty then (bif ax_ix i n then some (pc, L, r, ax_put H a (.inl (ty, n, .inl (upd f i.toNatClampNeg (vp_nar ty x))))) else none) else none
    | _ => none
  | _ => none
def ax_tgt (pc : Nat) (o : Int) : Nat := ((pc : Int) + o).toNat
/-- one instruction that calls nothing and ends nothing -/
def ax_s1 (e : ax_I) (L : ax_L) (S : List Value) (H : ax_H) : Option ax_S := match e with
  | (pc, ins, _, r1, r2, r3) => match ins with
    | .iconst n => some (pc + 1, L, .int (Int32.ofInt n) :: S, H)
    | .bipush n => some (pc + 2, L, .int (Int8.ofInt n).toInt32 :: S, H)
    | .sipush n => some (pc + 3, L, .int (Int16.ofInt n).toInt32 :: S, H)
    | .lconst n => some (pc + 1, L, .long (Int64.ofNat (n : Nat)) :: S, H)
    | .ldc _ => bif Nat.beq r2 0 then some (pc + 2, L, .int (Int32.ofNat r1) :: S, H) else none
    | .ldc_w _ => bif Nat.beq r2 0 then some (pc + 3, L, .int (Int32.ofNat r1) :: S, H) else none
    | .ldc2_w _ => some (pc + 3, L, .long (Int64.ofNat r1) :: S, H)
    | .iload_n k => ax_ld L k (pc + 1) S H 0
    | .iload k => ax_ld L k (pc + 2) S H 0
    | .lload_n k => ax_ld L k (pc + 1) S H 1
    | .lload k => ax_ld L k (pc + 2) S H 1
    | .aload_n k => ax_ld L k (pc + 1) S H 2
    | .aload k => ax_ld L k (pc + 2) S H 2
    | .istore_n k => ax_st L k (pc + 1) S H 0
    | .istore k => ax_st L k (pc + 2) S H 0
    | .lstore_n k => ax_st L k (pc + 1) S H 1
    | .lstore k => ax_st L k (pc + 2) S H 1
    | .astore_n k => ax_st L k (pc + 1) S H 2
    | .astore k => ax_st L k (pc + 2) S H 2
    | .iinc k n => match ax_get L k with
      | some (.int x) => some (pc + 3, ax_set1 L k (.int (x + Int32.ofInt n)), S, H)
      | _ => none
    | .iadd => ax_i2 L (pc + 1) S H (fun x y => x + y)
    | .isub => ax_i2 L (pc + 1) S H (fun x y => x - y)
    | .imul => ax_i2 L (pc + 1) S H (fun x y => x * y)
    | .iand => ax_i2 L (pc + 1) S H (fun x y => x &&& y)
    | .ior => ax_i2 L (pc + 1) S H (fun x y => x ||| y)
    | .ixor => ax_i2 L (pc + 1) S H (fun x y => x ^^^ y)
    | .ishl => ax_i2 L (pc + 1) S H (fun x y => x <<< (y &&& 31))
    | .ishr => ax_i2 L (pc + 1) S H (fun x y => x >>> (y &&& 31))
    | .iushr => ax_i2 L (pc + 1) S H (fun x y => (x.toUInt32 >>> (y.toUInt32 &&& Int32.toUInt32 31)).toInt32)
    | .idiv => match S with
      | .int y :: .int x :: r => if y = 0 then none else some (pc + 1, L, .int (x / y) :: r, H)
      | _ => none
    | .irem => match S with
      | .int y :: .int x :: r => if y = 0 then none else some (pc + 1, L, .int (x - x / y * y) :: r, H)
      | _ => none
    | .ineg => ax_i1 L (pc + 1) S H (fun x => -x)
    | .i2b => ax_i1 L (pc + 1) S H (fun x => x.toInt8.toInt32)
    | .i2s => ax_i1 L (pc + 1) S H (fun x => x.toInt16.toInt32)
    | .i2c => ax_i1 L (pc + 1) S H (fun x => (x.toUInt32 % 65536).toInt32)
    | .i2l => match S with
      | .int x :: r => some (pc + 1, L, .long x.toInt64 :: r, H)
      | _ => none
    | .ladd => ax_l2 L (pc + 1) S H (fun x y => x + y)
    | .lsub => ax_l2 L (pc + 1) S H (fun x y => x - y)
    | .lmul => ax_l2 L (pc + 1) S H (fun x y => x * y)
    | .ldiv => match S with
      | .long y :: .long x :: r => if y = 0 then none else some (pc + 1, L, .long (x / y) :: r, H)
      | _ => none
    | .lrem => match S with
      | .long y :: .long x :: r => if y = 0 then none else some (pc + 1, L, .long (x - x / y * y) :: r, H)
      | _ => none
    | .lcmp => match S with
      | .long y :: .long x :: r => some (pc + 1, L, .int (lg_cmp x y) :: r, H)
      | _ => none
    | .dup => match S with
      | v :: r => bif Nat.beq v.category 1 then some (pc + 1, L, v :: v :: r, H) else none
      | _ => none
    | .pop => match S with
      | v :: r => bif Nat.beq v.category 1 then some (pc + 1, L, r, H) else none
      | _ => none
    | .dup_x1 => match S with
      | v :: w :: r => bif Nat.beq v.category 1 && Nat.beq w.category 1 then some (pc + 1, L, v :: w :: v :: r, H) else none
      | _ => none
    | .dup2 => match S with
      | v :: w :: r => bif Nat.beq v.category 1 && Nat.beq w.category 1 then some (pc + 1, L, v :: w :: v :: w :: r, H) else none
      | _ => none
    | .ifCond c _ => match S with
      | .int x :: r => some (ax_cnd c x 0 r1 (pc + 3), L, r, H)
      | _ => none
    | .if_icmp c _ => match S with
      | .int y :: .int x :: r => some (ax_cnd c x y r1 (pc + 3), L, r, H)
      | _ => none
    | .goto _ => some (r1, L, S, H)
    | .tableswitch d lo hi offs => match S with
      | .int x :: r => if x.toInt < lo ∨ hi < x.toInt then some (ax_tgt pc d, L, r, H) else match offs[(x.toInt - lo).toNat]? with
        | some o => some (ax_tgt pc o, L, r, H)
        | none => none
      | _ => none
    | .lookupswitch d ps => match S with
      | .int x :: r => some (ax_tgt pc (Op.lookupswitch.offset ps.toList d x.toInt), L, r, H)
      | _ => none
    | .getfield _ => match S with
      | .ref a :: r => match ax_obj H a r1 with
        | some fs => match fs[r2]? with
          | some v => some (pc + 3, L, v :: r, H)
          | none => none
        | none => none
      | _ => none
    | .putfield _ => match S with
      | v :: .ref a :: r => match ax_obj H a r1 with
        | some fs => bif Nat.blt r2 fs.length then (match v, r3 % 10 with
          | .int x, 0 => some (pc + 3, L, r, ax_put H a (.inr (r1, fs.set r2 (.int x))))
          | .int x, 1 => if x = 0 ∨ x = 1 then some (pc + 3, L, r, ax_put H a (.inr (r1, fs.set r2 (.int x)))) else none
          | .ref x, 2 => some (pc + 3, L, r, ax_put H a (.inr (r1, fs.set r2 (.ref x))))
          | _, _ => none) else none
        | none => none
      | _ => none
    | .getstatic _ => some (pc + 3, L, .ref r1 :: S, H)
    | .iaload => ax_al L (pc + 1) S H (fun t => match t with | .int => true | _ => false)
    | .baload => ax_al L (pc + 1) S H (fun t => match t with | .byte => true | .boolean => true | _ => false)
    | .caload => ax_al L (pc + 1) S H (fun t => match t with | .char => true | _ => false)
    | .laload => match S with
      | .int i :: .ref a :: r => match ax_rowL H a with
        | some (n, f) => bif ax_ix i n then some (pc + 1, L, .long (f i.toNatClampNeg) :: r, H) else none
        | none => none
      | _ => none
    | .iastore => ax_as L (pc + 1) S H (fun t => match t with | .int => true | _ => false)
    | .bastore => ax_as L (pc + 1) S H (fun t => match t with | .byte => true | .boolean => true | _ => false)
    | .castore => ax_as L (pc + 1) S H (fun t => match t with | .char => true | _ => false)
    | .lastore => match S with
      | .long x :: .int i :: .ref a :: r => match ax_rowL H a with
        | some (n, f) => bif ax_ix i n then some (pc + 1, L, r, ax_put H a (.inl (.long, n, .inr (.inl (vp_updL f i.toNatClampNeg x))))) else none
        | none => none
      | _ => none
    | .arraylength => match S with
      | .ref a :: r => match ax_row H a with
        | some (ty, n, _) => bif (match ty with | .int => true | .byte => true | .char => true | .boolean => true | _ => false) then some (pc + 1, L, .int (Int32.ofNat n) :: r, H) else none
        | none => match ax_rowL H a with
          | some (n, _) => some (pc + 1, L, .int (Int32.ofNat n) :: r, H)
          | none => none
      | _ => none
    | .newarray t => match S with
      | .int n :: r => bif Nat.blt H.1.length 1000000 && (ax_vl H.1.length L r && ax_vh H.1.length H.1) then (if n < 0 then none else if 8 * n.toNatClampNeg ≤ 536870912 then (match t with
        | .int => some (pc + 2, L, .ref H.1.length :: r, ax_new H (.inl (.int, n.toNatClampNeg, .inl (fun _ => 0))) n.toNatClampNeg)
        | .char => some (pc + 2, L, .ref H.1.length :: r, ax_new H (.inl (.char, n.toNatClampNeg, .inl (fun _ => 0))) n.toNatClampNeg)
        | .byte => some (pc + 2, L, .ref H.1.length :: r, ax_new H (.inl (.byte, n.toNatClampNeg, .inl (fun _ => 0))) n.toNatClampNeg)
        | .boolean => some (pc + 2, L, .ref H.1.length :: r, ax_new H (.inl (.boolean, n.toNatClampNeg, .inl (fun _ => 0))) n.toNatClampNeg)
        | .long => some (pc + 2, L, .ref H.1.length :: r, ax_new H (.inl (.long, n.toNatClampNeg, .inr (.inl (fun _ => 0)))) n.toNatClampNeg)
        | _ => none) else none) else none
      | _ => none
    | .invokestatic _ => bif Nat.beq r1 1 then (match S with
        | .int x :: r => bif Nat.ble (ax_wid r) 8 then some (pc + 3, L, .int (if 0 ≤ x then x else 0 - x) :: r, H) else none
        | _ => none)
      else bif Nat.beq r1 2 then (match S with
        | .int y :: .int x :: r => bif Nat.ble (ax_wid r) 8 then some (pc + 3, L, .int (if x < y then y else x) :: r, H) else none
        | _ => none)
      else bif Nat.beq r1 3 then (match S with
        | .int y :: .int x :: r => bif Nat.ble (ax_wid r) 8 then some (pc + 3, L, .int (if y < x then y else x) :: r, H) else none
        | _ => none)
      else none
    | .new _ => bif Nat.blt r1 10 && (Nat.blt H.1.length 1000000 && (ax_vl H.1.length L S && ax_vh H.1.length H.1)) then some (pc + 3, L, .ref H.1.length :: S, ax_new H (.inr (r1, ax_def r1)) r2) else none
    | _ => none
def ax_at (j pc : Nat) : Option ax_I := match ax_mt[j]? with
  | some m => m.2.2.2.2.find? (fun e => Nat.beq e.1 pc)
  | none => none
/-- what a call brings: the heap and the value, or nothing where it threw -/
abbrev ax_R : Type := ax_H × Option (Option Value)
def ax_ret (j : Nat) : Option FieldType := match ax_mt[j]? with
  | some m => m.2.2.2.1
  | none => none
/-- an end: a return, or a throw of our own -/
def ax_fin (j : Nat) (e : ax_I) (S : List Value) (H : ax_H) : Option ax_R := match e with
  | (_, ins, _, r1, _, _) => match ins with
    | .ireturn => match S, ax_ret j with
      | [.int x], some .int => some (H, some (some (.int x)))
      | [.int x], some .boolean => if x = 0 ∨ x = 1 then some (H, some (some (.int x))) else none
      | _, _ => none
    | .lreturn => match S, ax_ret j with
      | [.long x], some .long => some (H, some (some (.long x)))
      | _, _ => none
    | .areturn => match S, ax_ret j with
      | [.ref x], some (.object _) => some (H, some (some (.ref x)))
      | _, _ => none
    | .return_ => match S, ax_ret j with
      | [], none => some (H, some none)
      | _, _ => none
    | .new _ => bif Nat.beq r1 990 then (match S with
      | [] => some ((H.1, (H.2.1.1 + 1, H.2.1.2 + 6), H.2.2), none)
      | _ => none) else none
    | _ => none
/-- the locals at a method's entry -/
def ax_arg : Nat → List Value → ax_L
  | _, [] => []
  | i, v :: r => (i, v) :: ax_arg (i + v.category) r
/-- the n arguments on top, the first one deepest -/
def ax_pop : Nat → List Value → List Value → Option (List Value × List Value)
  | 0, as, S => some (as, S)
  | n + 1, as, v :: S => ax_pop n (v :: as) S
  | _ + 1, _, [] => none
/-- the three ways in which the law asks for an answer that may be thrown -/
def ax_wrap (r : Option ax_R) (o : Nat) : Option (ax_H × Int32) := match r with
  | some (H, some (some v)) => match ax_rowL H o with
    | some (n, f) => if 0 < n then (match v with
      | .int x => some (ax_put H o (.inl (.long, n, .inr (.inl (vp_updL f 0 x.toInt64)))), 0)
      | .long x => some (ax_put H o (.inl (.long, n, .inr (.inl (vp_updL f 0 x)))), 0)
      | _ => none) else none
    | none => none
  | some (H, none) => some (H, 1)
  | _ => none
def ax_cpy (H : ax_H) (a b : Nat) (sp dp n : Int32) : Option ax_H :=
  bif Nat.ble 1000000 a || Nat.ble 1000000 b then none else match H.1[a]?, H.1[b]? with
  | some (.inl (.int, n0, .inl f)), some (.inl (.int, n1, .inl g)) =>
    if ¬ sp < 0 ∧ ¬ dp < 0 ∧ ¬ n < 0 ∧ sp.toNatClampNeg + n.toNatClampNeg ≤ n0 ∧ dp.toNatClampNeg + n.toNatClampNeg ≤ n1 then
      some (ax_put H b (.inl (.int, n1, .inl (va_cpy f g sp.toNatClampNeg dp.toNatClampNeg n.toNatClampNeg)))) else none
  | _, _ => none
abbrev ax_F : Type := Nat → Nat → ax_L → List Value → ax_H → Option ax_R
/-- behind a call: what was held is still held -/
def ax_kp (L : ax_L) (S : List Value) (H H' : ax_H) : Bool := Nat.beq H'.1.length H.1.length || ax_vl H.1.length L S
/-- a call, by E, which says what methods do -/
def ax_call (E : ax_F) (e : ax_I) (L : ax_L) (S : List Value) (H : ax_H) : Option ax_S := match e with
  | (pc, ins, _, r1, r2, r3) => match ins with
    | .invokespecial _ => bif Nat.beq r1 999 then (match S with
        | .ref _ :: r => bif Nat.ble (ax_wid r) 8 then some (pc + 3, L, r, H) else none
        | _ => none)
      else match ax_pop (r2 % 100) [] S with
        | some (as, .ref a :: r) => bif Nat.ble (ax_wid r) 8 && Nat.ble (ax_wid (.ref a :: as)) (r2 / 100) then (match E r1 0 (ax_arg 0 (.ref a :: as)) [] H with
          | some (H', some none) => bif ax_kp L r H H' then some (pc + 3, L, r, H') else none
          | _ => none) else none
        | _ => none
    | .invokevirtual _ => match ax_pop (r2 % 100) [] S with
        | some (as, .ref a :: r) => bif Nat.ble (ax_wid r) 8 && (Nat.ble (ax_wid (.ref a :: as)) (r2 / 100) && (ax_obj H a r3).isSome) then (match E r1 0 (ax_arg 0 (.ref a :: as)) [] H with
          | some (H', some v) => bif ax_kp L r H H' then some (pc + 3, L, v.toList ++ r, H') else none
          | _ => none) else none
        | _ => none
    | .invokestatic _ => bif Nat.beq r1 998 then (match S with
        | .int n :: .int dp :: .ref b :: .int sp :: .ref a :: r => bif Nat.ble (ax_wid r) 8 then (match ax_cpy H a b sp dp n with
          | some H' => some (pc + 3, L, r, H')
          | none => none) else none
        | _ => none)
      else bif Nat.beq r1 4 then (match S with
        | .ref o :: .int y :: .int x :: .ref a :: r => bif Nat.ble (ax_wid r) 8 && (ax_obj H a 8).isSome then (match ax_wrap (E 223 0 (ax_arg 0 [.ref a, .int x, .int y]) [] H) o with
          | some (H', k) => bif Nat.beq H'.1.length H.1.length then some (pc + 3, L, .int k :: r, H') else none
          | none => none) else none
        | _ => none)
      else bif Nat.beq r1 5 then (match S with
        | .ref o :: .int y :: .int x :: .ref a :: r => bif Nat.ble (ax_wid r) 8 && (ax_obj H a 8).isSome then (match ax_wrap (E 224 0 (ax_arg 0 [.ref a, .int x, .int y]) [] H) o with
          | some (H', k) => bif Nat.beq H'.1.length H.1.length then some (pc + 3, L, .int k :: r, H') else none
          | none => none) else none
        | _ => none)
      else bif Nat.beq r1 6 then (match S with
        | .ref o :: .int x :: .ref a :: r => bif Nat.ble (ax_wid r) 8 && (ax_obj H a 8).isSome then (match ax_wrap (E 271 0 (ax_arg 0 [.ref a, .int x]) [] H) o with
          | some (H', k) => bif Nat.beq H'.1.length H.1.length then some (pc + 3, L, .int k :: r, H') else none
          | none => none) else none
        | _ => none)
      else bif Nat.ble 1 r1 && Nat.ble r1 3 then none else match ax_pop (r2 % 100) [] S with
        | some (as, r) => bif Nat.ble (ax_wid r) 8 && Nat.ble (ax_wid as) (r2 / 100) then (match E r1 0 (ax_arg 0 as) [] H with
          | some (H', some v) => bif ax_kp L r H H' then some (pc + 3, L, v.toList ++ r, H') else none
          | _ => none) else none
        | _ => none
    | _ => none
def ax_flt (o : Option (List Nat)) (L : ax_L) : ax_L := match o with
  | some m => L.filter (fun q => m.any (Nat.beq q.1))
  | none => L
def ax_nx (E : ax_F) (i : ax_I) (L : ax_L) (S : List Value) (H : ax_H) : Option ax_S := match ax_s1 i L S H with
  | some q => some q
  | none => ax_call E i L S H
/-- the next state; where ways join, what is not held on each of them is forgotten -/
def ax_next (E : ax_F) (j pc : Nat) (L : ax_L) (S : List Value) (H : ax_H) : Option ax_S := match ax_at j pc with
  | some e => match ax_nx E e L S H with
    | some q => some (q.1, ax_flt (ax_msk j q.1) q.2.1, q.2.2.1, q.2.2.2)
    | none => none
  | none => none
def ax_end (j pc : Nat) (S : List Value) (H : ax_H) : Option ax_R := match ax_at j pc with
  | some e => ax_fin j e S H
  | none => none
/-- a method's own steps, n at most; its calls are E's -/
def ax_it (E : ax_F) : Nat → ax_F
  | 0, _, _, _, _, _ => none
  | n + 1, j, pc, L, S, H => match ax_end j pc S H with
    | some r => some r
    | none => match ax_next E j pc L S H with
      | some q => ax_it E n j q.1 q.2.1 q.2.2.1 q.2.2.2
      | none => none
noncomputable def ax_lim (f : Nat → Option ax_R) : Option ax_R := @dite _ (∃ n, (f n).isSome = true) (Classical.propDecidable _) (fun h => f (Classical.choose h)) (fun _ => none)
/-- what a method does from a place on, calls d deep at most -/
noncomputable def ev : Nat → ax_F
  | 0 => fun _ _ _ _ _ => none
  | d + 1 => fun j pc L S H => ax_lim (fun n => ax_it (ev d) n j pc L S H)
theorem ax_it_add {E : ax_F} (k : Nat) : ∀ (n j pc : Nat) (L : ax_L) (S : List Value) (H : ax_H) (r : ax_R), ax_it E n j pc L S H = some r → ax_it E (n + k) j pc L S H = some r
  | 0, _, _, _, _, _, _, h => by cases h
  | n + 1, j, pc, L, S, H, r, h => by
    rw [Nat.add_right_comm]
    simp only [ax_it] at h ⊢
    cases h1 : ax_end j pc S H with
    | some r1 => rw [h1] at h; exact h
    | none =>
      rw [h1] at h
      cases h2 : ax_next E j pc L S H with
      | none => rw [h2] at h; cases h
      | some q =>
        rw [h2] at h
        exact ax_it_add k n j q.1 q.2.1 q.2.2.1 q.2.2.2 r h
theorem ax_lim_eq {f : Nat → Option ax_R} (hm : ∀ n k r, f n = some r → f (n + k) = some r) {n : Nat} {r : ax_R} (h : f n = some r) : ax_lim f = some r := by
  have he : ∃ n, (f n).isSome = true := ⟨n, by rw [h]; rfl⟩
  unfold ax_lim
  rw [dif_pos he]
  obtain ⟨r1, h1⟩ := Option.isSome_iff_exists.mp (Classical.choose_spec he)
  rw [h1]
  have a := hm _ n _ h1
  have b := hm _ (Classical.choose he) _ h
  rw [Nat.add_comm] at b
  exact a.symm.trans b
theorem ax_lim_some {f : Nat → Option ax_R} {r : ax_R} (h : ax_lim f = some r) : ∃ n, f n = some r := by
  unfold ax_lim at h
  split at h
  · exact ⟨_, h⟩
  · cases h
theorem ev_it {d j pc : Nat} {L : ax_L} {S : List Value} {H : ax_H} {r : ax_R} (h : ev (d + 1) j pc L S H = some r) : ∃ n, ax_it (ev d) n j pc L S H = some r := ax_lim_some h
theorem ev_of {d j pc n : Nat} {L : ax_L} {S : List Value} {H : ax_H} {r : ax_R} (h : ax_it (ev d) n j pc L S H = some r) : ev (d + 1) j pc L S H = some r :=
  ax_lim_eq (f := fun n => ax_it (ev d) n j pc L S H) (fun n k r h => ax_it_add k n j pc L S H r h) h
theorem ax_opt {a b : Option ax_R} (h1 : ∀ r, a = some r → b = some r) (h2 : ∀ r, b = some r → a = some r) : a = b := by
  cases ha : a with
  | some r => exact (h1 r ha).symm
  | none => cases hb : b with
    | none => rfl
    | some r => rw [h2 r hb] at ha; cases ha
theorem ev_eq (d j pc : Nat) (L : ax_L) (S : List Value) (H : ax_H) : ev (d + 1) j pc L S H = match ax_end j pc S H with
    | some r => some r
    | none => match ax_next (ev d) j pc L S H with
      | some q => ev (d + 1) j q.1 q.2.1 q.2.2.1 q.2.2.2
      | none => none := by
  refine ax_opt (fun r h => ?_) (fun r h => ?_)
  · obtain ⟨n, hn⟩ := ev_it h
    cases n with
    | zero => cases hn
    | succ n =>
      simp only [ax_it] at hn
      cases h1 : ax_end j pc S H with
      | some r1 => rw [h1] at hn; exact hn
      | none =>
        rw [h1] at hn
        cases h2 : ax_next (ev d) j pc L S H with
        | none => rw [h2] at hn; cases hn
        | some q => rw [h2] at hn; exact ev_of hn
  · cases h1 : ax_end j pc S H with
    | some r1 => rw [h1] at h; exact ev_of (n := 1) (by simp only [ax_it, h1]; exact h)
    | none =>
      rw [h1] at h
      cases h2 : ax_next (ev d) j pc L S H with
      | none => rw [h2] at h; cases h
      | some q =>
        rw [h2] at h
        obtain ⟨n, hn⟩ := ev_it h
        exact ev_of (n := n + 1) (by simp only [ax_it, h1, h2]; exact hn)
