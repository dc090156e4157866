/-! One instruction of the small machine is one of the JVM's -/
def ax_ty (dA : FieldType → ClassId) : List (ClassId × FieldType) := [(dA .int, .int), (dA .byte, .byte), (dA .char, .char), (dA .boolean, .boolean), (dA .long, .long)]
/-- the texts that exceptions bear -/
def ax_str : List (Nat × String) := [(132, "no such barge"), (164, "no such thing of a barge"), (169, "no such passenger"), (186, "no such thing of a passenger"), (382, "no such number")]
/-- words of exceptions that the tables alone decide -/
def ax_xw : List Cond := [.castable "java/util/NoSuchElementException" "java/util/NoSuchElementException", .declares ⟨"java/lang/RuntimeException", "<init>", "(Ljava/lang/String;)V"⟩, .declares ⟨"java/lang/Exception", "<init>", "(Ljava/lang/String;)V"⟩, .declares ⟨"java/lang/Throwable", "<init>", "(Ljava/lang/String;)V"⟩]
/-- what stands beside the cells: classes, the nest, the script, the statics, what an exception needs -/
def ax_St (D : va_G) (dA : FieldType → ClassId) (ro : Nat → Nat) (X : Nat × (Nat → Int32)) (A : Nat → Prop) (U : State) (H : Heap) : Prop :=
  va_K D vwCl (ax_ty dA) U ∧ (∀ w ∈ ax_nest, va_Nw w U) ∧ va_T .int (ro 0) X.1 (fun j => .int (X.2 j)) A U H ∧
  (∀ k ty n f, ax_rom (1000000 + k) = some (ty, n, f) → va_T ty (ro k) n (fun j => .int (f j)) A U H ∧ va_Z (ax_sn (1000000 + k)).1 (ax_sn (1000000 + k)).2.1 (ax_sn (1000000 + k)).2.2 (.ref (ro k)) A U H) ∧
  (vx_Zq Bundle.tN "UNASSIGNED_STACK" Bundle.steD A U H ∧ vx_Zq Bundle.tN "SUPPRESSED_SENTINEL" Bundle.listD A U H) ∧ (∀ w ∈ ax_xw, va_Nw w U) ∧ ∀ q ∈ ax_str, ∃ sa : Nat, vk_R "BargesByBreath" q.1 q.2 sa U
/-- what holds all through a method's body -/
def ax_CT (D : va_G) (dA : FieldType → ClassId) (ro : Nat → Nat) (X : Nat × (Nat → Int32)) (A : Nat → Prop) (p : Program) (R : Room) (s : State) (m : MethodId) (args : Array Value) (meth : Method) (c : Code) (M : ax_M) (d : Nat) : Prop :=
  p.tables.exec = Jvm.exec ∧ c.code = M.2.1 ∧ c.maxLocals = M.2.2.1 ∧ s.vm.findClass M.1.cls = some m.cls ∧ (∀ w ∈ lw_g, w.before args s = true) ∧ (M.1.name = "<init>" → meth.name = "<init>") ∧ (∀ q, s.heap.size ≤ q → A q) ∧ ax_St D dA ro X A s s.heap ∧ 2 * d + 20 ≤ R.frames ∧ 80 * d + 200 ≤ R.locals
/-- the JVM's heap and locals hold what the small machine has -/
def ax_IV (D : va_G) (dA : FieldType → ClassId) (ro : Nat → Nat) (X : Nat × (Nat → Int32)) (A : Nat → Prop) (s : State) (mx c0 s0 : Nat) (ad0 : List Nat) (L : ax_L) (H : ax_H) (Hm : Heap) (locs : List Loc) (cells slots : Nat) (ls : Array Slot) (ad : List Nat) : Prop :=
  va_P D vwCl (ax_cw dA ad ro H.1) Hm ∧ va_D A (ax_cw dA ad ro H.1) ∧ va_S A s.heap Hm locs ∧ lv_has ls mx (ax_cl ad ro L) ∧ ad.length = H.1.length ∧ H.1.length ≤ 1000000 ∧ H.2.2 = X ∧ H.2.1.1 = c0 + cells ∧ H.2.1.2 = s0 + slots ∧ ∃ ex, ad = ad0 ++ ex
theorem ax_nm_len {own nam : String} {mx pc len r1 r2 r3 : Nat} {ins : Instr} (h : ax_nm own nam mx (pc, ins, len, r1, r2, r3) = true) (h1 : ∀ d lo hi o, ins ≠ .tableswitch d lo hi o) (h2 : ∀ d o, ins ≠ .lookupswitch d o) : len = ax_len ins := by
  unfold ax_nm at h
  split at h
  rename_i e
  cases e
  split at h
  · exact absurd rfl (h1 _ _ _ _)
  · exact absurd rfl (h2 _ _)
  · simp only [Bool.and_eq_true] at h
    exact Nat.eq_of_beq_eq_true h.1
section AXS
variable {p : Program} {l : Launch} {e : Env} {R : Room} {s : State} {m : MethodId} {args : Array Value} {below : List Frame} {meth : Method} {c : Code} {Q : State → Prop}
variable {ad0 : List Nat} {D : va_G} {dA : FieldType → ClassId} {ro : Nat → Nat} {X : Nat × (Nat → Int32)} {A : Nat → Prop} {M : ax_M} {d c0 s0 : Nat}
variable {pc len r1 r2 r3 : Nat} {L : ax_L} {S : List Value} {H : ax_H} {Hm : Heap} {locs : List Loc} {cells slots : Nat} {ls : Array Slot} {ad : List Nat} {q : ax_S}
/-- what is to be shown of the state behind a step -/
def ax_KK (p : Program) (l : Launch) (e : Env) (R : Room) (s : State) (m : MethodId) (args : Array Value) (below : List Frame) (meth : Method) (c : Code) (Q : State → Prop) (D : va_G) (dA : FieldType → ClassId) (ro : Nat → Nat) (X : Nat × (Nat → Int32)) (A : Nat → Prop) (mx c0 s0 : Nat) (ad0 : List Nat) (q : ax_S) : Prop :=
  ∀ (Hm : Heap) (locs : List Loc) (cells slots : Nat) (ls : Array Slot) (ad : List Nat), ax_IV D dA ro X A s mx c0 s0 ad0 q.2.1 q.2.2.2 Hm locs cells slots ls ad → W p l e R s m args below meth c Hm locs cells slots Q (F0 m q.1 ls (q.2.2.1.map (ax_cv ad ro)))
/-- new locals -/
theorem ax_iv_set1 {mx i : Nat} {v : Value} {ls' : Array Slot} (V : ax_IV D dA ro X A s mx c0 s0 ad0 L H Hm locs cells slots ls ad) (h : lv_has ls' mx ((i, ax_cv ad ro v) :: (ax_cl ad ro L).filter (fun q => !(q.1 == i) && !(q.1 + 1 == i && q.2.category == 2)))) : ax_IV D dA ro X A s mx c0 s0 ad0 (ax_set1 L i v) H Hm locs cells slots ls' ad := by
  obtain ⟨v1, v2, v3, -, v5⟩ := V
  exact ⟨v1, v2, v3, ax_lv_sub h ax_set1_cl, v5⟩
theorem ax_iv_set2 {mx i : Nat} {v : Value} {ls' : Array Slot} (V : ax_IV D dA ro X A s mx c0 s0 ad0 L H Hm locs cells slots ls ad) (h : lv_has ls' mx ((i, ax_cv ad ro v) :: (ax_cl ad ro L).filter (fun q => !(q.1 == i) && (!(q.1 == i + 1) && !(q.1 + 1 == i && q.2.category == 2))))) : ax_IV D dA ro X A s mx c0 s0 ad0 (ax_set2 L i v) H Hm locs cells slots ls' ad := by
  obtain ⟨v1, v2, v3, -, v5⟩ := V
  exact ⟨v1, v2, v3, ax_lv_sub h ax_set2_cl, v5⟩
/-- a cell has changed -/
theorem ax_iv_put {mx a : Nat} {E : ax_E} {e0 : ax_E} {Hm' : Heap} {locs' : List Loc} (V : ax_IV D dA ro X A s mx c0 s0 ad0 L H Hm locs cells slots ls ad) (ha : H.1[a]? = some e0)
    (hP : va_P D vwCl ((ax_cw dA ad ro H.1).set a (ax_ca ad ro a, ax_ce dA ad ro E)) Hm') (hD : va_D A ((ax_cw dA ad ro H.1).set a (ax_ca ad ro a, ax_ce dA ad ro E))) (hS : va_S A s.heap Hm' locs') : ax_IV D dA ro X A s mx c0 s0 ad0 L (ax_put H a E) Hm' locs' cells slots ls ad := by
  obtain ⟨-, -, -, v4, v5, v6, v7, v8, v9, ex, hex⟩ := V
  have hk : a < H.1.length := (List.getElem?_eq_some_iff.mp ha).1
  rw [ax_ca_lt (by omega), ax_cw_set v5 hk] at hP hD
  exact ⟨hP, hD, hS, v4, by rw [v5]; simp [ax_put], by simpa [ax_put] using v6, v7, v8, v9, ex, hex⟩
/-- a cell has been made -/
theorem ax_iv_new {mx n qa : Nat} {E : ax_E} {Hm' : Heap} (V : ax_IV D dA ro X A s mx c0 s0 ad0 L H Hm locs cells slots ls ad) (hn : H.1.length < 1000000) (hL : L.all (fun q => ax_vv H.1.length q.2) = true) (hh : ax_vh H.1.length H.1 = true)
    (hP : va_P D vwCl (ax_cw dA ad ro H.1 ++ [(qa, ax_ce dA (ad ++ [qa]) ro E)]) Hm') (hD : va_D A (ax_cw dA ad ro H.1 ++ [(qa, ax_ce dA (ad ++ [qa]) ro E)])) (hS : va_S A s.heap Hm' locs) :
    ax_IV D dA ro X A s mx c0 s0 ad0 L (ax_new H E n) Hm' locs (cells + 1) (slots + n) ls (ad ++ [qa]) := by
  obtain ⟨-, -, -, v4, v5, v6, v7, v8, v9, ex, hex⟩ := V
  rw [← ax_cw_push v5 hh] at hP hD
  refine ⟨hP, hD, hS, ?_, by simp [ax_new, v5], by simp [ax_new]; omega, v7, by simp [ax_new]; omega, by simp [ax_new]; omega, ex ++ [qa], by rw [hex, List.append_assoc]⟩
  rw [ax_cl_ext [qa] (by rw [v5]; exact hL)]
  exact v4
theorem ax_ref_new {ad : List Nat} {ro : Nat → Nat} {n qa : Nat} (h : ad.length = n) (hn : n < 1000000) : ax_cv (ad ++ [qa]) ro (.ref n) = .ref qa := by
  show Value.ref (ax_ca (ad ++ [qa]) ro n) = .ref qa
  rw [ax_ca_lt hn, List.getD_eq_getElem?_getD, ← h, List.getElem?_concat_length]
  rfl
theorem ax_ty_at {dA : FieldType → ClassId} {ty : FieldType} (h : ty = .int ∨ ty = .byte ∨ ty = .char ∨ ty = .boolean ∨ ty = .long) : ∃ t : Nat, (ax_ty dA)[t]? = some (dA ty, ty) := by
  rcases h with rfl | rfl | rfl | rfl | rfl
  · exact ⟨0, rfl⟩
  · exact ⟨1, rfl⟩
  · exact ⟨2, rfl⟩
  · exact ⟨3, rfl⟩
  · exact ⟨4, rfl⟩
end AXS
theorem ax_df_0 : ∀ j, j < 2 → defaultValue (tyX0 j) = vp_V (ax_def 0) j := by decide +kernel
theorem ax_df_1 : ∀ j, j < 1 → defaultValue (tyX1 j) = vp_V (ax_def 1) j := by decide +kernel
theorem ax_df_2 : ∀ j, j < 20 → defaultValue (tyX2 j) = vp_V (ax_def 2) j := by decide +kernel
theorem ax_df_3 : ∀ j, j < 3 → defaultValue (tyX4 j) = vp_V (ax_def 3) j := by decide +kernel
theorem ax_df_4 : ∀ j, j < 4 → defaultValue (tyX5 j) = vp_V (ax_def 4) j := by decide +kernel
theorem ax_df_5 : ∀ j, j < 6 → defaultValue (tyX6 j) = vp_V (ax_def 5) j := by decide +kernel
theorem ax_df_6 : ∀ j, j < 4 → defaultValue (tyX7 j) = vp_V (ax_def 6) j := by decide +kernel
theorem ax_df_7 : ∀ j, j < 2 → defaultValue (tyX8 j) = vp_V (ax_def 7) j := by decide +kernel
theorem ax_df_8 : ∀ j, j < 9 → defaultValue (tyX9 j) = vp_V (ax_def 8) j := by decide +kernel
theorem ax_df_9 : ∀ j, j < 43 → defaultValue (tyX10 j) = vp_V (ax_def 9) j := by decide +kernel
/-- a class of the worlds: its fields stand in the tables -/
theorem ax_cls_all : ∀ (k : Nat) (qc : vw_C), vwCl[k]? = some qc → (∀ w ∈ u_ws qc.1 qc.2.1 qc.2.2, w ∈ lw_g) ∧ ∃ ty : Nat → FieldType, (∀ j, j < qc.2.2 → parseFieldDescriptor (qc.2.1 j).2.2.1 = some (ty j)) ∧ (∀ a, a < qc.2.2 → ∀ b, b < qc.2.2 → a ≠ b → (qc.2.1 a).2.1 ≠ (qc.2.1 b).2.1) ∧ ∀ j, j < qc.2.2 → defaultValue (ty j) = vp_V (ax_def k) j := by
  intro k qc hq
  match k, hq with
  | 0, hq => cases hq; exact ⟨ax_in_0, tyX0, tyX0_ok, nmX0, ax_df_0⟩
  | 1, hq => cases hq; exact ⟨ax_in_1, tyX1, tyX1_ok, nmX1, ax_df_1⟩
  | 2, hq => cases hq; exact ⟨ax_in_2, tyX2, tyX2_ok, nmX2, ax_df_2⟩
  | 3, hq => cases hq; exact ⟨ax_in_3, tyX4, tyX4_ok, nmX4, ax_df_3⟩
  | 4, hq => cases hq; exact ⟨ax_in_4, tyX5, tyX5_ok, nmX5, ax_df_4⟩
  | 5, hq => cases hq; exact ⟨ax_in_5, tyX6, tyX6_ok, nmX6, ax_df_5⟩
  | 6, hq => cases hq; exact ⟨ax_in_6, tyX7, tyX7_ok, nmX7, ax_df_6⟩
  | 7, hq => cases hq; exact ⟨ax_in_7, tyX8, tyX8_ok, nmX8, ax_df_7⟩
  | 8, hq => cases hq; exact ⟨ax_in_8, tyX9, tyX9_ok, nmX9, ax_df_8⟩
  | 9, hq => cases hq; exact ⟨ax_in_9, tyX10, tyX10_ok, nmX10, ax_df_9⟩
  | k + 10, hq => simp [vwCl] at hq
theorem ax_cls_of {r1 r2 : Nat} (h : (match vwCl[r1]? with
    | some (_, _, N) => Nat.blt r2 N
    | none => false) = true) : ∃ qc : vw_C, vwCl[r1]? = some qc ∧ r2 < qc.2.2 ∧ (∀ w ∈ u_ws qc.1 qc.2.1 qc.2.2, w ∈ lw_g) ∧ ∃ ty : Nat → FieldType, (∀ j, j < qc.2.2 → parseFieldDescriptor (qc.2.1 j).2.2.1 = some (ty j)) ∧ (∀ a, a < qc.2.2 → ∀ b, b < qc.2.2 → a ≠ b → (qc.2.1 a).2.1 ≠ (qc.2.1 b).2.1) := by
  cases hq : vwCl[r1]? with
  | none => rw [hq] at h; cases h
  | some qc =>
    rw [hq] at h
    obtain ⟨h1, ty, h2, h3, -⟩ := ax_cls_all r1 qc hq
    exact ⟨qc, rfl, Nat.le_of_ble_eq_true h, h1, ty, h2, h3⟩
