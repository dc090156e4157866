/-! Places become addresses -/
def ax_ca (ad : List Nat) (ro : Nat → Nat) (k : Nat) : Nat := if 1000000 ≤ k then ro (k - 1000000) else ad.getD k 0
def ax_cv (ad : List Nat) (ro : Nat → Nat) (v : Value) : Value := match v with
  | .ref k => .ref (ax_ca ad ro k)
  | w => w
def ax_ce (dA : FieldType → ClassId) (ad : List Nat) (ro : Nat → Nat) (e : ax_E) : va_E := match e with
  | .inl (ty, x) => .inl (dA ty, x)
  | .inr (c, fs) => .inr (c, fs.map (ax_cv ad ro))
def ax_cw (dA : FieldType → ClassId) (ad : List Nat) (ro : Nat → Nat) (l : List ax_E) : va_W := List.zipWith (fun a e => (a, ax_ce dA ad ro e)) ad l
def ax_cl (ad : List Nat) (ro : Nat → Nat) (L : ax_L) : List (Nat × Value) := L.map fun q => (q.1, ax_cv ad ro q.2)
theorem ax_cv_cat (ad : List Nat) (ro : Nat → Nat) (v : Value) : (ax_cv ad ro v).category = v.category := by cases v <;> rfl
theorem ax_cw_get {dA : FieldType → ClassId} {ad : List Nat} {ro : Nat → Nat} {l : List ax_E} {k : Nat} {e : ax_E} (hl : ad.length = l.length) (h : l[k]? = some e) : (ax_cw dA ad ro l)[k]? = some (ad.getD k 0, ax_ce dA ad ro e) := by
  have hk : k < ad.length := by rw [hl]; exact (List.getElem?_eq_some_iff.mp h).1
  unfold ax_cw
  rw [List.getElem?_zipWith, h, List.getElem?_eq_getElem hk]
  show some (ad[k], _) = some (ad.getD k 0, _)
  rw [List.getD_eq_getElem?_getD, List.getElem?_eq_getElem hk]
  rfl
theorem ax_cw_at {dA : FieldType → ClassId} {ad : List Nat} {ro : Nat → Nat} {l : List ax_E} {k : Nat} {e : ax_E} (hl : ad.length = l.length) (hm : l.length ≤ 1000000) (h : l[k]? = some e) : (ax_cw dA ad ro l)[k]? = some (ax_ca ad ro k, ax_ce dA ad ro e) := by
  have hk : k < l.length := (List.getElem?_eq_some_iff.mp h).1
  rw [ax_cw_get hl h]
  unfold ax_ca
  rw [if_neg (by omega)]
theorem ax_cw_set {dA : FieldType → ClassId} {ad : List Nat} {ro : Nat → Nat} : ∀ {l : List ax_E} {k : Nat} {e : ax_E}, ad.length = l.length → k < l.length → (ax_cw dA ad ro l).set k (ad.getD k 0, ax_ce dA ad ro e) = ax_cw dA ad ro (l.set k e) := by
  intro l k e hl hk
  apply List.ext_getElem?
  intro i
  have hka : k < ad.length := by omega
  by_cases hi : k = i
  · subst hi
    have h1 : k < (ax_cw dA ad ro l).length := by unfold ax_cw; rw [List.length_zipWith]; omega
    rw [List.getElem?_set_self h1]
    exact (ax_cw_get (by simpa using hl) (by rw [List.getElem?_set_self hk])).symm
  · rw [List.getElem?_set_ne hi]
    unfold ax_cw
    rw [List.getElem?_zipWith, List.getElem?_zipWith, List.getElem?_set_ne hi]
theorem ax_ca_lt {ad : List Nat} {ro : Nat → Nat} {k : Nat} (h : k < 1000000) : ax_ca ad ro k = ad.getD k 0 := by unfold ax_ca; rw [if_neg (by omega)]
/-- a longer list of addresses: what lies among the first ones stays -/
theorem ax_cv_ext {ad : List Nat} {ro : Nat → Nat} (ex : List Nat) {v : Value} (h : ax_vv ad.length v = true) : ax_cv (ad ++ ex) ro v = ax_cv ad ro v := by
  cases v with
  | ref k =>
    simp only [ax_vv, Bool.or_eq_true] at h
    show Value.ref (ax_ca (ad ++ ex) ro k) = Value.ref (ax_ca ad ro k)
    congr 1
    unfold ax_ca
    rcases h with h | h
    · have hk : k < ad.length := Nat.le_of_ble_eq_true h
      by_cases hq : 1000000 ≤ k
      · rw [if_pos hq, if_pos hq]
      · rw [if_neg hq, if_neg hq, List.getD_eq_getElem?_getD, List.getD_eq_getElem?_getD, List.getElem?_append_left hk]
    · rw [if_pos (Nat.le_of_ble_eq_true h), if_pos (Nat.le_of_ble_eq_true h)]
  | _ => rfl
theorem ax_map_ext {ad : List Nat} {ro : Nat → Nat} (ex : List Nat) {S : List Value} (h : S.all (ax_vv ad.length) = true) : S.map (ax_cv (ad ++ ex) ro) = S.map (ax_cv ad ro) :=
  List.map_congr_left fun v hv => ax_cv_ext ex (List.all_eq_true.mp h v hv)
theorem ax_cl_ext {ad : List Nat} {ro : Nat → Nat} (ex : List Nat) {L : ax_L} (h : L.all (fun q => ax_vv ad.length q.2) = true) : ax_cl (ad ++ ex) ro L = ax_cl ad ro L :=
  List.map_congr_left fun q hq => by rw [ax_cv_ext ex (List.all_eq_true.mp h q hq)]
theorem ax_ce_ext {dA : FieldType → ClassId} {ad : List Nat} {ro : Nat → Nat} (ex : List Nat) {l : List ax_E} (h : ax_vh ad.length l = true) : ∀ e ∈ l, ax_ce dA (ad ++ ex) ro e = ax_ce dA ad ro e := by
  intro e he
  have h1 := List.all_eq_true.mp h e he
  obtain ⟨ty, x⟩ | ⟨c, fs⟩ := e
  · rfl
  · show Sum.inr (c, fs.map (ax_cv (ad ++ ex) ro)) = Sum.inr (c, fs.map (ax_cv ad ro))
    rw [ax_map_ext ex h1]
theorem ax_cw_push {dA : FieldType → ClassId} {ad : List Nat} {ro : Nat → Nat} {l : List ax_E} {e : ax_E} {q : Nat} (hl : ad.length = l.length) (h : ax_vh l.length l = true) : ax_cw dA (ad ++ [q]) ro (l ++ [e]) = ax_cw dA ad ro l ++ [(q, ax_ce dA (ad ++ [q]) ro e)] := by
  unfold ax_cw
  rw [List.zipWith_append hl]
  congr 1
  apply List.ext_getElem?
  intro i
  rw [List.getElem?_zipWith, List.getElem?_zipWith]
  cases h1 : ad[i]? with
  | none => rfl
  | some a => cases h2 : l[i]? with
    | none => rfl
    | some x =>
      show some (a, ax_ce dA (ad ++ [q]) ro x) = some (a, ax_ce dA ad ro x)
      rw [ax_ce_ext [q] (by rw [hl]; exact h) x (List.mem_of_getElem? h2)]
theorem ax_get_mem : ∀ {L : ax_L} {i : Nat} {v : Value}, ax_get L i = some v → (i, v) ∈ L
  | [], _, _, h => by cases h
  | q :: r, i, v, h => by
    unfold ax_get at h
    cases hq : Nat.beq q.1 i with
    | true =>
      rw [hq] at h
      have e1 : q.1 = i := Nat.eq_of_beq_eq_true hq
      have e2 : q.2 = v := Option.some.inj h
      rw [← e1, ← e2]; exact List.mem_cons_self
    | false => rw [hq] at h; exact List.mem_cons_of_mem _ (ax_get_mem h)
theorem ax_cl_at {ls : Array Slot} {n : Nat} {ad : List Nat} {ro : Nat → Nat} {L : ax_L} (hl : lv_has ls n (ax_cl ad ro L)) {i : Nat} {v : Value} (h : ax_get L i = some v) : ls[i]? = some (.val (ax_cv ad ro v)) :=
  hl.2.2 (i, ax_cv ad ro v) (List.mem_map.mpr ⟨(i, v), ax_get_mem h, rfl⟩)
theorem ax_srt_mem {i : Nat} {v : Value} : ∀ {L : ax_L} {q : Nat × Value}, q ∈ ax_srt i v L → q = (i, v) ∨ q ∈ L
  | [], q, h => Or.inl (List.mem_singleton.mp h)
  | x :: r, q, h => by
    unfold ax_srt at h
    cases hb : Nat.ble i x.1 with
    | true =>
      rw [hb] at h
      rcases List.mem_cons.mp h with h | h
      · exact Or.inl h
      · exact Or.inr h
    | false =>
      rw [hb] at h
      rcases List.mem_cons.mp h with h | h
      · exact Or.inr (by rw [h]; exact List.mem_cons_self)
      · rcases ax_srt_mem h with h | h
        · exact Or.inl h
        · exact Or.inr (List.mem_cons_of_mem _ h)
theorem ax_lv_sub {ls : Array Slot} {n : Nat} {l l' : List (Nat × Value)} (h : lv_has ls n l) (hs : ∀ q ∈ l', q ∈ l) : lv_has ls n l' := ⟨h.1, h.2.1, fun q hq => h.2.2 q (hs q hq)⟩
theorem ax_set1_cl {ad : List Nat} {ro : Nat → Nat} {L : ax_L} {i : Nat} {v : Value} : ∀ q ∈ ax_cl ad ro (ax_set1 L i v), q ∈ (i, ax_cv ad ro v) :: (ax_cl ad ro L).filter (fun q => !(q.1 == i) && !(q.1 + 1 == i && q.2.category == 2)) := by
  intro q hq
  obtain ⟨x, hx, rfl⟩ := List.mem_map.mp hq
  rcases ax_srt_mem hx with h | h
  · rw [h]; exact List.mem_cons_self
  · obtain ⟨h1, h2⟩ := List.mem_filter.mp h
    refine List.mem_cons_of_mem _ (List.mem_filter.mpr ⟨List.mem_map.mpr ⟨x, h1, rfl⟩, ?_⟩)
    show (!(x.1 == i) && !(x.1 + 1 == i && (ax_cv ad ro x.2).category == 2)) = true
    rw [ax_cv_cat]; exact h2
theorem ax_set2_cl {ad : List Nat} {ro : Nat → Nat} {L : ax_L} {i : Nat} {v : Value} : ∀ q ∈ ax_cl ad ro (ax_set2 L i v), q ∈ (i, ax_cv ad ro v) :: (ax_cl ad ro L).filter (fun q => !(q.1 == i) && (!(q.1 == i + 1) && !(q.1 + 1 == i && q.2.category == 2))) := by
  intro q hq
  obtain ⟨x, hx, rfl⟩ := List.mem_map.mp hq
  rcases ax_srt_mem hx with h | h
  · rw [h]; exact List.mem_cons_self
  · obtain ⟨h1, h2⟩ := List.mem_filter.mp h
    refine List.mem_cons_of_mem _ (List.mem_filter.mpr ⟨List.mem_map.mpr ⟨x, h1, rfl⟩, ?_⟩)
    show (!(x.1 == i) && (!(x.1 == i + 1) && !(x.1 + 1 == i && (ax_cv ad ro x.2).category == 2))) = true
    rw [ax_cv_cat]; exact h2
/-! inversions -/
theorem ax_nble {n a : Nat} (hb : Nat.ble n a = false) : a < n := Nat.lt_of_not_le fun hq => by
  rw [Nat.ble_eq_true_of_le hq] at hb
  cases hb
theorem ax_ld_inv {L : ax_L} {i pc k : Nat} {S : List Value} {H : ax_H} {q : ax_S} (h : ax_ld L i pc S H k = some q) : (∃ x, ax_get L i = some (.int x) ∧ k = 0 ∧ q = (pc, L, .int x :: S, H)) ∨ (∃ x, ax_get L i = some (.long x) ∧ k = 1 ∧ q = (pc, L, .long x :: S, H)) ∨ (∃ x, ax_get L i = some (.ref x) ∧ k = 2 ∧ q = (pc, L, .ref x :: S, H)) := by
  unfold ax_ld at h
  split at h
  · rename_i x hx; cases h; exact Or.inl ⟨_, hx, rfl, rfl⟩
  · rename_i x hx; cases h; exact Or.inr (Or.inl ⟨_, hx, rfl, rfl⟩)
  · rename_i x hx; cases h; exact Or.inr (Or.inr ⟨_, hx, rfl, rfl⟩)
  · cases h
theorem ax_st_inv {L : ax_L} {i pc k : Nat} {S : List Value} {H : ax_H} {q : ax_S} (h : ax_st L i pc S H k = some q) : (∃ x r, S = .int x :: r ∧ k = 0 ∧ q = (pc, ax_set1 L i (.int x), r, H)) ∨ (∃ x r, S = .long x :: r ∧ k = 1 ∧ q = (pc, ax_set2 L i (.long x), r, H)) ∨ (∃ x r, S = .ref x :: r ∧ k = 2 ∧ q = (pc, ax_set1 L i (.ref x), r, H)) := by
  unfold ax_st at h
  split at h
  · cases h; exact Or.inl ⟨_, _, rfl, rfl, rfl⟩
  · cases h; exact Or.inr (Or.inl ⟨_, _, rfl, rfl, rfl⟩)
  · cases h; exact Or.inr (Or.inr ⟨_, _, rfl, rfl, rfl⟩)
  · cases h
theorem ax_i2_inv {L : ax_L} {pc : Nat} {S : List Value} {H : ax_H} {f : Int32 → Int32 → Int32} {q : ax_S} (h : ax_i2 L pc S H f = some q) : ∃ x y r, S = .int y :: .int x :: r ∧ q = (pc, L, .int (f x y) :: r, H) := by
  unfold ax_i2 at h
  split at h
  · cases h; exact ⟨_, _, _, rfl, rfl⟩
  · cases h
theorem ax_i1_inv {L : ax_L} {pc : Nat} {S : List Value} {H : ax_H} {f : Int32 → Int32} {q : ax_S} (h : ax_i1 L pc S H f = some q) : ∃ x r, S = .int x :: r ∧ q = (pc, L, .int (f x) :: r, H) := by
  unfold ax_i1 at h
  split at h
  · cases h; exact ⟨_, _, rfl, rfl⟩
  · cases h
theorem ax_l2_inv {L : ax_L} {pc : Nat} {S : List Value} {H : ax_H} {f : Int64 → Int64 → Int64} {q : ax_S} (h : ax_l2 L pc S H f = some q) : ∃ x y r, S = .long y :: .long x :: r ∧ q = (pc, L, .long (f x y) :: r, H) := by
  unfold ax_l2 at h
  split at h
  · cases h; exact ⟨_, _, _, rfl, rfl⟩
  · cases h
theorem ax_bif {α : Type} {b : Bool} {x : Option α} {q : α} (h : (bif b then x else none) = some q) : b = true ∧ x = some q := by
  cases b with
  | true => exact ⟨rfl, h⟩
  | false => cases h
theorem ax_al_inv {L : ax_L} {pc : Nat} {S : List Value} {H : ax_H} {ok : FieldType → Bool} {q : ax_S} (h : ax_al L pc S H ok = some q) : ∃ i a r ty n f, S = .int i :: .ref a :: r ∧ ax_row H a = some (ty, n, f) ∧ ok ty = true ∧ vp_in i n ∧ q = (pc, L, .int (f i.toNatClampNeg) :: r, H) := by
  unfold ax_al at h
  split at h
  · rename_i i a r
    split at h
    · rename_i ty n f hr
      obtain ⟨h1, h⟩ := ax_bif h
      obtain ⟨h2, h⟩ := ax_bif h
      cases h
      exact ⟨i, a, r, ty, n, f, rfl, hr, h1, ax_ix_in h2, rfl⟩
    · cases h
  · cases h
theorem ax_as_inv {L : ax_L} {pc : Nat} {S : List Value} {H : ax_H} {ok : FieldType → Bool} {q : ax_S} (h : ax_as L pc S H ok = some q) : ∃ x i a r ty n f, S = .int x :: .int i :: .ref a :: r ∧ a < 1000000 ∧ H.1[a]? = some (.inl (ty, n, .inl f)) ∧ ok ty = true ∧ vp_in i n ∧ q = (pc, L, r, ax_put H a (.inl (ty, n, .inl (upd f i.toNatClampNeg (vp_nar ty x))))) := by
  unfold ax_as at h
  split at h
  · rename_i x i a r
    cases hb : Nat.ble 1000000 a with
    | true => rw [hb] at h; cases h
    | false =>
      rw [hb] at h
      simp only [cond_false] at h
      split at h
      · rename_i ty n f hr
        obtain ⟨h1, h⟩ := ax_bif h
        obtain ⟨h2, h⟩ := ax_bif h
        cases h
        exact ⟨x, i, a, r, ty, n, f, rfl, ax_nble hb, hr, h1, ax_ix_in h2, rfl⟩
      · cases h
  · cases h
theorem ax_obj_inv {H : ax_H} {a c : Nat} {fs : List Value} (h : ax_obj H a c = some fs) : a < 1000000 ∧ H.1[a]? = some (.inr (c, fs)) := by
  unfold ax_obj at h
  cases hb : Nat.ble 1000000 a with
  | true => rw [hb] at h; cases h
  | false =>
    rw [hb] at h
    simp only [cond_false] at h
    split at h
    · rename_i k gs hr
      obtain ⟨h1, h⟩ := ax_bif h
      cases h
      rw [← Nat.eq_of_beq_eq_true h1]
      exact ⟨ax_nble hb, hr⟩
    · cases h
theorem ax_rowL_inv {H : ax_H} {a n : Nat} {f : Nat → Int64} (h : ax_rowL H a = some (n, f)) : a < 1000000 ∧ H.1[a]? = some (.inl (.long, n, .inr (.inl f))) := by
  unfold ax_rowL at h
  cases hb : Nat.ble 1000000 a with
  | true => rw [hb] at h; cases h
  | false =>
    rw [hb] at h
    simp only [cond_false] at h
    split at h
    · rename_i n2 f2 hr
      cases h
      exact ⟨ax_nble hb, hr⟩
    · cases h
/-- a row that is read: a cell, the script, or one of the statics -/
theorem ax_row_inv {H : ax_H} {a n : Nat} {ty : FieldType} {f : Nat → Int32} (h : ax_row H a = some (ty, n, f)) : (a < 1000000 ∧ H.1[a]? = some (.inl (ty, n, .inl f))) ∨ (a = 1000000 ∧ ty = .int ∧ (n, f) = H.2.2) ∨ (1000000 < a ∧ ax_rom a = some (ty, n, f)) := by
  unfold ax_row at h
  cases hb : Nat.ble 1000000 a with
  | true =>
    rw [hb] at h
    have hle : 1000000 ≤ a := Nat.le_of_ble_eq_true hb
    simp only [cond_true] at h
    cases hc : Nat.beq a 1000000 with
    | true =>
      rw [hc] at h
      obtain ⟨h1, h2⟩ := Prod.mk.inj (Option.some.inj h)
      exact Or.inr (Or.inl ⟨Nat.eq_of_beq_eq_true hc, h1.symm, h2.symm⟩)
    | false =>
      rw [hc] at h
      exact Or.inr (Or.inr ⟨Nat.lt_of_le_of_ne hle (fun q => by rw [← q] at hc; cases hc), h⟩)
  | false =>
    rw [hb] at h
    simp only [cond_false] at h
    split at h
    · rename_i ty2 n2 f2 hr
      cases h
      exact Or.inl ⟨ax_nble hb, hr⟩
    · cases h
