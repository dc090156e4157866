/-! Running the small machine by stretches -/
def ax_blk (j : Nat) (b : List ax_I) : Bool := b.all (fun e => decide (ax_at j e.1 = some e)) && (b.drop 1).all (fun e => decide (ax_msk j e.1 = none))
def ax_run : List ax_I → ax_S → Option ax_S
  | [], q => some q
  | e :: r, q => bif Nat.beq e.1 q.1 then (match ax_s1 e q.2.1 q.2.2.1 q.2.2.2 with
    | some q' => ax_run r q'
    | none => none) else none
theorem ax_s1_fin {j : Nat} {i : ax_I} {L : ax_L} {S : List Value} {H : ax_H} {q : ax_S} (h : ax_s1 i L S H = some q) : ax_fin j i S H = none := by
  obtain ⟨pc, ins, len, r1, r2, r3⟩ := i
  cases ins <;> first | rfl | (exact absurd h (by intro z; cases z)) | skip
  · obtain ⟨h1, h⟩ := ax_bif h
    simp only [Bool.and_eq_true] at h1
    have h2 : r1 < 10 := Nat.le_of_ble_eq_true h1.1
    show (bif Nat.beq r1 990 then _ else none) = none
    cases hb : Nat.beq r1 990 with
    | false => rfl
    | true => have := Nat.eq_of_beq_eq_true hb; omega
theorem ev_s1 {d j pc : Nat} {i : ax_I} {L : ax_L} {S : List Value} {H : ax_H} {q : ax_S} (hat : ax_at j pc = some i) (h : ax_s1 i L S H = some q) : ev (d + 1) j pc L S H = ev (d + 1) j q.1 (ax_flt (ax_msk j q.1) q.2.1) q.2.2.1 q.2.2.2 := by
  rw [ev_eq]
  simp only [ax_end, ax_next, ax_nx, hat, ax_s1_fin h, h]
theorem ev_run {d j : Nat} : ∀ (b : List ax_I) {st st' : ax_S}, b ≠ [] → ax_blk j b = true → ax_run b st = some st' → ev (d + 1) j st.1 st.2.1 st.2.2.1 st.2.2.2 = ev (d + 1) j st'.1 (ax_flt (ax_msk j st'.1) st'.2.1) st'.2.2.1 st'.2.2.2
  | [], st, st', hne, _, h => absurd rfl hne
  | e :: r, st, st', _, hb, h => by
    simp only [ax_blk, List.all_cons, Bool.and_eq_true, List.drop_succ_cons, List.drop_zero] at hb
    unfold ax_run at h
    obtain ⟨h1, h⟩ := ax_bif h
    have h2 : e.1 = st.1 := Nat.eq_of_beq_eq_true h1
    split at h
    · rename_i q hq
      have hat : ax_at j st.1 = some e := by rw [← h2]; exact of_decide_eq_true hb.1.1
      rw [ev_s1 hat hq]
      cases r with
      | nil => cases h; rfl
      | cons e2 r2 =>
        have hb2 := hb.2
        simp only [List.all_cons, Bool.and_eq_true] at hb2
        have h3 : Nat.beq e2.1 q.1 = true := by
          unfold ax_run at h
          exact (ax_bif h).1
        have h4 : ax_msk j q.1 = none := by rw [← Nat.eq_of_beq_eq_true h3]; exact of_decide_eq_true hb2.1
        have ih := ev_run (d := d) (j := j) (e2 :: r2) (st := q) (st' := st') (by intro z; cases z) (by simp only [ax_blk, Bool.and_eq_true]; exact ⟨hb.1.2, hb2.2⟩) h
        rw [h4]
        exact ih
    · cases h
/-- .. up to something known -/
theorem ev_to {d j : Nat} {b : List ax_I} {pc pc' : Nat} {L L0 L' : ax_L} {S S' : List Value} {H H' : ax_H} {r : Option ax_R} {o : Option (List Nat)} (hb : ax_blk j b = true) (hne : b ≠ []) (h : ax_run b (pc, L, S, H) = some (pc', L0, S', H')) (hm : ax_msk j pc' = o) (hL : ax_flt o L0 = L') (k : ev (d + 1) j pc' L' S' H' = r) : ev (d + 1) j pc L S H = r := by
  have h1 := ev_run (d := d) b hne hb h
  simp only at h1
  rw [hm, hL] at h1
  exact h1.trans k
/-- .. up to a branch -/
theorem ev_br {c : Prop} [Decidable c] {d j : Nat} {b : List ax_I} {pc pa pb : Nat} {L L0 La Lb : ax_L} {S S' : List Value} {H H' : ax_H} {x y : Option ax_R} {oa ob : Option (List Nat)} (hb : ax_blk j b = true) (hne : b ≠ []) (h : ax_run b (pc, L, S, H) = some (if c then pa else pb, L0, S', H')) (hma : ax_msk j pa = oa) (hmb : ax_msk j pb = ob) (hLa : ax_flt oa L0 = La) (hLb : ax_flt ob L0 = Lb)
    (ka : ev (d + 1) j pa La S' H' = x) (kb : ev (d + 1) j pb Lb S' H' = y) : ev (d + 1) j pc L S H = if c then x else y := by
  have h1 := ev_run (d := d) b hne hb h
  simp only at h1
  rw [h1]
  split
  · rw [hma, hLa]; exact ka
  · rw [hmb, hLb]; exact kb
/-- an instruction that asks for something first -/
theorem ev_ask {d j pc pc' : Nat} {i : ax_I} {L L0 L' : ax_L} {S S' : List Value} {H H' : ax_H} {b : Bool} {r : Option ax_R} (hat : ax_at j pc = some i) (h : ax_s1 i L S H = bif b then some (pc', L0, S', H') else none) (hn : ∀ E, ax_call E i L S H = none) (hf : ax_fin j i S H = none) {o : Option (List Nat)} (hm : ax_msk j pc' = o) (hL : ax_flt o L0 = L') (k : ev (d + 1) j pc' L' S' H' = r) : ev (d + 1) j pc L S H = bif b then r else none := by
  cases b with
  | true => rw [ev_s1 hat h]; simp only [hm, hL]; exact k
  | false =>
    have h : ax_s1 i L S H = none := h
    rw [ev_eq]
    simp only [ax_end, ax_next, ax_nx, hat, hf, h, hn, cond_false]
theorem ev_askn {c : Prop} [Decidable c] {d j pc pc' : Nat} {i : ax_I} {L L0 L' : ax_L} {S S' : List Value} {H H' : ax_H} {r : Option ax_R} (hat : ax_at j pc = some i) (h : ax_s1 i L S H = if c then none else some (pc', L0, S', H')) (hn : ∀ E, ax_call E i L S H = none) (hf : ax_fin j i S H = none) {o : Option (List Nat)} (hm : ax_msk j pc' = o) (hL : ax_flt o L0 = L') (k : ev (d + 1) j pc' L' S' H' = r) : ev (d + 1) j pc L S H = if c then none else r := by
  split
  · rename_i hc
    rw [if_pos hc] at h
    rw [ev_eq]
    simp only [ax_end, ax_next, ax_nx, hat, hf, h, hn]
  · rename_i hc
    rw [if_neg hc] at h
    rw [ev_s1 hat h]; simp only [hm, hL]; exact k
theorem ev_askp {c : Prop} [Decidable c] {d j pc pc' : Nat} {i : ax_I} {L L0 L' : ax_L} {S S' : List Value} {H H' : ax_H} {r : Option ax_R} (hat : ax_at j pc = some i) (h : ax_s1 i L S H = if c then some (pc', L0, S', H') else none) (hn : ∀ E, ax_call E i L S H = none) (hf : ax_fin j i S H = none) {o : Option (List Nat)} (hm : ax_msk j pc' = o) (hL : ax_flt o L0 = L') (k : ev (d + 1) j pc' L' S' H' = r) : ev (d + 1) j pc L S H = if c then r else none := by
  split
  · rename_i hc
    rw [if_pos hc] at h
    rw [ev_s1 hat h]; simp only [hm, hL]; exact k
  · rename_i hc
    rw [if_neg hc] at h
    rw [ev_eq]
    simp only [ax_end, ax_next, ax_nx, hat, hf, h, hn]
theorem ev_fin {d j pc : Nat} {i : ax_I} {L : ax_L} {S : List Value} {H : ax_H} {r : Option ax_R} (hat : ax_at j pc = some i) (h : ax_fin j i S H = r) (hs : ax_s1 i L S H = none) (hn : ∀ E, ax_call E i L S H = none) : ev (d + 1) j pc L S H = r := by
  rw [ev_eq]
  simp only [ax_end, ax_next, ax_nx, hat, h, hs, hn]
  cases r <;> rfl
theorem ev_iret {d j pc len r1 r2 r3 : Nat} {L : ax_L} {x : Int32} {H : ax_H} (hat : ax_at j pc = some (pc, .ireturn, len, r1, r2, r3)) (hr : ax_ret j = some .int) : ev (d + 1) j pc L [.int x] H = some (H, some (some (.int x))) := ev_fin hat (by simp only [ax_fin, hr]) rfl (fun _ => rfl)
theorem ev_zret {d j pc len r1 r2 r3 : Nat} {L : ax_L} {x : Int32} {H : ax_H} (hat : ax_at j pc = some (pc, .ireturn, len, r1, r2, r3)) (hr : ax_ret j = some .boolean) : ev (d + 1) j pc L [.int x] H = if x = 0 ∨ x = 1 then some (H, some (some (.int x))) else none := ev_fin hat (by simp only [ax_fin, hr]) rfl (fun _ => rfl)
theorem ev_lret {d j pc len r1 r2 r3 : Nat} {L : ax_L} {x : Int64} {H : ax_H} (hat : ax_at j pc = some (pc, .lreturn, len, r1, r2, r3)) (hr : ax_ret j = some .long) : ev (d + 1) j pc L [.long x] H = some (H, some (some (.long x))) := ev_fin hat (by simp only [ax_fin, hr]) rfl (fun _ => rfl)
theorem ev_aret {d j pc len r1 r2 r3 : Nat} {L : ax_L} {x : Nat} {H : ax_H} {nm : String} (hat : ax_at j pc = some (pc, .areturn, len, r1, r2, r3)) (hr : ax_ret j = some (.object nm)) : ev (d + 1) j pc L [.ref x] H = some (H, some (some (.ref x))) := ev_fin hat (by simp only [ax_fin, hr]) rfl (fun _ => rfl)
theorem ev_vret {d j pc len r1 r2 r3 : Nat} {L : ax_L} {H : ax_H} (hat : ax_at j pc = some (pc, .return_, len, r1, r2, r3)) (hr : ax_ret j = none) : ev (d + 1) j pc L [] H = some (H, some none) := ev_fin hat (by simp only [ax_fin, hr]) rfl (fun _ => rfl)
/-- calls, once the callee's end is known -/
theorem ev_cv {d j pc k i len r2 r3 : Nat} {L : ax_L} {S as r : List Value} {a : Nat} {H H' : ax_H} {v : Option Value} (hat : ax_at j pc = some (pc, .invokevirtual i, len, k, r2, r3)) (hp : ax_pop (r2 % 100) [] S = some (as, .ref a :: r)) (hw : (Nat.ble (ax_wid r) 8 && (Nat.ble (ax_wid (.ref a :: as)) (r2 / 100) && (ax_obj H a r3).isSome)) = true) (hk : ax_kp L r H H' = true)
    {o : Option (List Nat)} {L' : ax_L} (hm : ax_msk j (pc + 3) = o) (hL : ax_flt o L = L') (h : ev d k 0 (ax_arg 0 (.ref a :: as)) [] H = some (H', some v)) : ev (d + 1) j pc L S H = ev (d + 1) j (pc + 3) L' (v.toList ++ r) H' := by
  rw [ev_eq]
  have h1 : ax_s1 (pc, .invokevirtual i, len, k, r2, r3) L S H = none := rfl
  have h2 : ax_fin j (pc, .invokevirtual i, len, k, r2, r3) S H = none := rfl
  have h3 : ax_call (ev d) (pc, .invokevirtual i, len, k, r2, r3) L S H = some (pc + 3, L, v.toList ++ r, H') := by
    simp only [ax_call, hp, hw, h, hk, cond_true]
  simp only [ax_end, ax_next, ax_nx, hat, h1, h2, h3, hm, hL]
theorem ev_cs {d j pc k i len r2 r3 : Nat} {L : ax_L} {S as r : List Value} {H H' : ax_H} {v : Option Value} (hat : ax_at j pc = some (pc, .invokestatic i, len, k, r2, r3)) (hk0 : (Nat.beq k 998 || (Nat.ble 1 k && Nat.ble k 6)) = false) (hp : ax_pop (r2 % 100) [] S = some (as, r)) (hw : (Nat.ble (ax_wid r) 8 && Nat.ble (ax_wid as) (r2 / 100)) = true) (hk : ax_kp L r H H' = true)
    {o : Option (List Nat)} {L' : ax_L} (hm : ax_msk j (pc + 3) = o) (hL : ax_flt o L = L') (h : ev d k 0 (ax_arg 0 as) [] H = some (H', some v)) : ev (d + 1) j pc L S H = ev (d + 1) j (pc + 3) L' (v.toList ++ r) H' := by
  rw [ev_eq]
  simp only [Bool.or_eq_false_iff, Bool.and_eq_false_iff] at hk0
  have nb : ∀ n, 1 ≤ n → n ≤ 6 → Nat.beq k n = false := fun n h1 h2 => by
    cases hz : Nat.beq k n with
    | false => rfl
    | true =>
      have e := Nat.eq_of_beq_eq_true hz
      subst e
      rcases hk0.2 with z | z
      · rw [Nat.ble_eq_true_of_le h1] at z; cases z
      · rw [Nat.ble_eq_true_of_le h2] at z; cases z
  have n13 : (Nat.ble 1 k && Nat.ble k 3) = false := by
    cases hz : (Nat.ble 1 k && Nat.ble k 3) with
    | false => rfl
    | true =>
      simp only [Bool.and_eq_true] at hz
      have z2 := Nat.le_of_ble_eq_true hz.2
      rcases hk0.2 with z | z
      · rw [hz.1] at z; cases z
      · rw [Nat.ble_eq_true_of_le (Nat.le_trans z2 (by decide))] at z; cases z
  have h1 : ax_s1 (pc, .invokestatic i, len, k, r2, r3) L S H = none := by
    simp only [ax_s1, nb 1 (by decide) (by decide), nb 2 (by decide) (by decide), nb 3 (by decide) (by decide), cond_false]
  have h2 : ax_fin j (pc, .invokestatic i, len, k, r2, r3) S H = none := rfl
  have h3 : ax_call (ev d) (pc, .invokestatic i, len, k, r2, r3) L S H = some (pc + 3, L, v.toList ++ r, H') := by
    simp only [ax_call, hk0.1, nb 4 (by decide) (by decide), nb 5 (by decide) (by decide), nb 6 (by decide) (by decide), n13, hp, hw, h, hk, cond_true, cond_false]
  simp only [ax_end, ax_next, ax_nx, hat, h1, h2, h3, hm, hL]
theorem ev_sw {d j pc pc' : Nat} {i : ax_I} {L L' : ax_L} {S S' : List Value} {H H' : ax_H} {L0 : ax_L} {o : Option (List Nat)} (hat : ax_at j pc = some i) (h : ax_s1 i L S H = some (pc', L0, S', H')) (hm : ax_msk j pc' = o) (hL : ax_flt o L0 = L') : ev (d + 1) j pc L S H = ev (d + 1) j pc' L' S' H' := by
  rw [ev_s1 hat h]; simp only [hm, hL]
theorem ev_nc {d j pc pc' : Nat} {i : ax_I} {L L' : ax_L} {S S' : List Value} {H H' : ax_H} {L0 : ax_L} {o : Option (List Nat)} (hat : ax_at j pc = some i) (hs : ax_s1 i L S H = none) (hf : ax_fin j i S H = none) (h : ax_call (ev d) i L S H = some (pc', L0, S', H')) (hm : ax_msk j pc' = o) (hL : ax_flt o L0 = L') : ev (d + 1) j pc L S H = ev (d + 1) j pc' L' S' H' := by
  rw [ev_eq]
  simp only [ax_end, ax_next, ax_nx, hat, hs, hf, h, hm, hL]
/-! rows, without looking into the index -/
theorem ev_ald {d j pc pc' a n : Nat} {i : ax_I} {L L' : ax_L} {r : List Value} {H : ax_H} {x : Int32} {ty : FieldType} {f : Nat → Int32} {ok : FieldType → Bool} {R : Option ax_R} {o : Option (List Nat)} (hat : ax_at j pc = some i) (h1 : ∀ L S H, ax_s1 i L S H = ax_al L pc' S H ok) (hn : ∀ E L S H, ax_call E i L S H = none) (hf : ∀ S H, ax_fin j i S H = none)
    (hr : ax_row H a = some (ty, n, f)) (hok : ok ty = true) (hm : ax_msk j pc' = o) (hL : ax_flt o L = L') (k : ev (d + 1) j pc' L' (.int (f x.toNatClampNeg) :: r) H = R) : ev (d + 1) j pc L (.int x :: .ref a :: r) H = bif ax_ix x n then R else none := by
  have h2 : ax_s1 i L (.int x :: .ref a :: r) H = bif ax_ix x n then some (pc', L, .int (f x.toNatClampNeg) :: r, H) else none := by
    rw [h1]; unfold ax_al; simp only [hr, hok, cond_true]
  exact ev_ask hat h2 (fun E => hn E _ _ _) (hf _ _) hm hL k
theorem ev_ast {d j pc pc' a n : Nat} {i : ax_I} {L L' : ax_L} {r : List Value} {H H' : ax_H} {x y : Int32} {ty : FieldType} {f : Nat → Int32} {ok : FieldType → Bool} {R : Option ax_R} {o : Option (List Nat)} (hat : ax_at j pc = some i) (h1 : ∀ L S H, ax_s1 i L S H = ax_as L pc' S H ok) (hn : ∀ E L S H, ax_call E i L S H = none) (hf : ∀ S H, ax_fin j i S H = none)
    (hlt : Nat.ble 1000000 a = false) (hr : H.1[a]? = some (.inl (ty, n, .inl f))) (hok : ok ty = true) (hp : ax_put H a (.inl (ty, n, .inl (upd f x.toNatClampNeg (vp_nar ty y)))) = H') (hm : ax_msk j pc' = o) (hL : ax_flt o L = L') (k : ev (d + 1) j pc' L' r H' = R) : ev (d + 1) j pc L (.int y :: .int x :: .ref a :: r) H = bif ax_ix x n then R else none := by
  have h2 : ax_s1 i L (.int y :: .int x :: .ref a :: r) H = bif ax_ix x n then some (pc', L, r, H') else none := by
    rw [h1]; unfold ax_as; simp only [hlt, hr, hok, cond_true, cond_false, hp]
  exact ev_ask hat h2 (fun E => hn E _ _ _) (hf _ _) hm hL k
theorem ev_lald {d j pc a n len r1 r2 r3 : Nat} {L L' : ax_L} {r : List Value} {H : ax_H} {x : Int32} {f : Nat → Int64} {R : Option ax_R} {o : Option (List Nat)} (hat : ax_at j pc = some (pc, .laload, len, r1, r2, r3)) (hr : ax_rowL H a = some (n, f)) (hm : ax_msk j (pc + 1) = o) (hL : ax_flt o L = L') (k : ev (d + 1) j (pc + 1) L' (.long (f x.toNatClampNeg) :: r) H = R) : ev (d + 1) j pc L (.int x :: .ref a :: r) H = bif ax_ix x n then R else none := by
  have h2 : ax_s1 (pc, .laload, len, r1, r2, r3) L (.int x :: .ref a :: r) H = bif ax_ix x n then some (pc + 1, L, .long (f x.toNatClampNeg) :: r, H) else none := by
    simp only [ax_s1, hr]
  exact ev_ask hat h2 (fun E => rfl) rfl hm hL k
theorem ev_last {d j pc a n len r1 r2 r3 : Nat} {L L' : ax_L} {r : List Value} {H H' : ax_H} {x : Int32} {y : Int64} {f : Nat → Int64} {R : Option ax_R} {o : Option (List Nat)} (hat : ax_at j pc = some (pc, .lastore, len, r1, r2, r3)) (hr : ax_rowL H a = some (n, f)) (hp : ax_put H a (.inl (.long, n, .inr (.inl (vp_updL f x.toNatClampNeg y)))) = H') (hm : ax_msk j (pc + 1) = o) (hL : ax_flt o L = L') (k : ev (d + 1) j (pc + 1) L' r H' = R) : ev (d + 1) j pc L (.long y :: .int x :: .ref a :: r) H = bif ax_ix x n then R else none := by
  have h2 : ax_s1 (pc, .lastore, len, r1, r2, r3) L (.long y :: .int x :: .ref a :: r) H = bif ax_ix x n then some (pc + 1, L, r, H') else none := by
    simp only [ax_s1, hr, hp]
  exact ev_ask hat h2 (fun E => rfl) rfl hm hL k
