/-! What was made is counted upward -/
theorem ax_s1_H {pc len r1 r2 r3 : Nat} {ins : Instr} {L : ax_L} {S : List Value} {H : ax_H} {q : ax_S} (h : ax_s1 (pc, ins, len, r1, r2, r3) L S H = some q) : q.2.2.2.2.1 = H.2.1 ∨ ∃ e n, q.2.2.2 = ax_new H e n := by
  cases ins with
  | iconst _ =>
    cases h; exact Or.inl rfl
  | bipush _ =>
    cases h; exact Or.inl rfl
  | sipush _ =>
    cases h; exact Or.inl rfl
  | lconst _ =>
    cases h; exact Or.inl rfl
  | ldc2_w _ =>
    cases h; exact Or.inl rfl
  | goto _ =>
    cases h; exact Or.inl rfl
  | getstatic _ =>
    cases h; exact Or.inl rfl
  | ldc _ =>
    obtain ⟨-, h⟩ := ax_bif h; cases h; exact Or.inl rfl
  | ldc_w _ =>
    obtain ⟨-, h⟩ := ax_bif h; cases h; exact Or.inl rfl
  | iload_n _ =>
    rcases ax_ld_inv h with ⟨x, hg, hk, rfl⟩ | ⟨x, hg, hk, rfl⟩ | ⟨x, hg, hk, rfl⟩ <;> exact Or.inl rfl
  | iload _ =>
    rcases ax_ld_inv h with ⟨x, hg, hk, rfl⟩ | ⟨x, hg, hk, rfl⟩ | ⟨x, hg, hk, rfl⟩ <;> exact Or.inl rfl
  | lload_n _ =>
    rcases ax_ld_inv h with ⟨x, hg, hk, rfl⟩ | ⟨x, hg, hk, rfl⟩ | ⟨x, hg, hk, rfl⟩ <;> exact Or.inl rfl
  | lload _ =>
    rcases ax_ld_inv h with ⟨x, hg, hk, rfl⟩ | ⟨x, hg, hk, rfl⟩ | ⟨x, hg, hk, rfl⟩ <;> exact Or.inl rfl
  | aload_n _ =>
    rcases ax_ld_inv h with ⟨x, hg, hk, rfl⟩ | ⟨x, hg, hk, rfl⟩ | ⟨x, hg, hk, rfl⟩ <;> exact Or.inl rfl
  | aload _ =>
    rcases ax_ld_inv h with ⟨x, hg, hk, rfl⟩ | ⟨x, hg, hk, rfl⟩ | ⟨x, hg, hk, rfl⟩ <;> exact Or.inl rfl
  | istore_n _ =>
    rcases ax_st_inv h with ⟨x, r, rfl, hk, rfl⟩ | ⟨x, r, rfl, hk, rfl⟩ | ⟨x, r, rfl, hk, rfl⟩ <;> exact Or.inl rfl
  | istore _ =>
    rcases ax_st_inv h with ⟨x, r, rfl, hk, rfl⟩ | ⟨x, r, rfl, hk, rfl⟩ | ⟨x, r, rfl, hk, rfl⟩ <;> exact Or.inl rfl
  | lstore_n _ =>
    rcases ax_st_inv h with ⟨x, r, rfl, hk, rfl⟩ | ⟨x, r, rfl, hk, rfl⟩ | ⟨x, r, rfl, hk, rfl⟩ <;> exact Or.inl rfl
  | lstore _ =>
    rcases ax_st_inv h with ⟨x, r, rfl, hk, rfl⟩ | ⟨x, r, rfl, hk, rfl⟩ | ⟨x, r, rfl, hk, rfl⟩ <;> exact Or.inl rfl
  | astore_n _ =>
    rcases ax_st_inv h with ⟨x, r, rfl, hk, rfl⟩ | ⟨x, r, rfl, hk, rfl⟩ | ⟨x, r, rfl, hk, rfl⟩ <;> exact Or.inl rfl
  | astore _ =>
    rcases ax_st_inv h with ⟨x, r, rfl, hk, rfl⟩ | ⟨x, r, rfl, hk, rfl⟩ | ⟨x, r, rfl, hk, rfl⟩ <;> exact Or.inl rfl
  | iinc _ _ =>
    simp only [ax_s1] at h
    split at h <;> cases h
    exact Or.inl rfl
  | iadd =>
    obtain ⟨x, y, r, rfl, rfl⟩ := ax_i2_inv h; exact Or.inl rfl
  | isub =>
    obtain ⟨x, y, r, rfl, rfl⟩ := ax_i2_inv h; exact Or.inl rfl
  | imul =>
    obtain ⟨x, y, r, rfl, rfl⟩ := ax_i2_inv h; exact Or.inl rfl
  | iand =>
    obtain ⟨x, y, r, rfl, rfl⟩ := ax_i2_inv h; exact Or.inl rfl
  | ior =>
    obtain ⟨x, y, r, rfl, rfl⟩ := ax_i2_inv h; exact Or.inl rfl
  | ixor =>
    obtain ⟨x, y, r, rfl, rfl⟩ := ax_i2_inv h; exact Or.inl rfl
  | ishl =>
    obtain ⟨x, y, r, rfl, rfl⟩ := ax_i2_inv h; exact Or.inl rfl
  | ishr =>
    obtain ⟨x, y, r, rfl, rfl⟩ := ax_i2_inv h; exact Or.inl rfl
  | iushr =>
    obtain ⟨x, y, r, rfl, rfl⟩ := ax_i2_inv h; exact Or.inl rfl
  | ladd =>
    obtain ⟨x, y, r, rfl, rfl⟩ := ax_l2_inv h; exact Or.inl rfl
  | lsub =>
    obtain ⟨x, y, r, rfl, rfl⟩ := ax_l2_inv h; exact Or.inl rfl
  | lmul =>
    obtain ⟨x, y, r, rfl, rfl⟩ := ax_l2_inv h; exact Or.inl rfl
  | ineg =>
    obtain ⟨x, r, rfl, rfl⟩ := ax_i1_inv h; exact Or.inl rfl
  | i2b =>
    obtain ⟨x, r, rfl, rfl⟩ := ax_i1_inv h; exact Or.inl rfl
  | i2s =>
    obtain ⟨x, r, rfl, rfl⟩ := ax_i1_inv h; exact Or.inl rfl
  | i2c =>
    obtain ⟨x, r, rfl, rfl⟩ := ax_i1_inv h; exact Or.inl rfl
  | i2l =>
    simp only [ax_s1] at h
    split at h <;> cases h
    exact Or.inl rfl
  | lcmp =>
    simp only [ax_s1] at h
    split at h <;> cases h
    exact Or.inl rfl
  | ifCond _ _ =>
    simp only [ax_s1] at h
    split at h <;> cases h
    exact Or.inl rfl
  | if_icmp _ _ =>
    simp only [ax_s1] at h
    split at h <;> cases h
    exact Or.inl rfl
  | lookupswitch _ _ =>
    simp only [ax_s1] at h
    split at h <;> cases h
    exact Or.inl rfl
  | idiv =>
    simp only [ax_s1] at h
    split at h
    · split at h <;> cases h
      exact Or.inl rfl
    · cases h
  | irem =>
    simp only [ax_s1] at h
    split at h
    · split at h <;> cases h
      exact Or.inl rfl
    · cases h
  | ldiv =>
    simp only [ax_s1] at h
    split at h
    · split at h <;> cases h
      exact Or.inl rfl
    · cases h
  | lrem =>
    simp only [ax_s1] at h
    split at h
    · split at h <;> cases h
      exact Or.inl rfl
    · cases h
  | tableswitch _ _ _ _ =>
    simp only [ax_s1] at h
    split at h
    · split at h
      · cases h; exact Or.inl rfl
      · split at h <;> cases h
        exact Or.inl rfl
    · cases h
  | dup =>
    simp only [ax_s1] at h
    split at h
    · obtain ⟨-, h⟩ := ax_bif h; cases h; exact Or.inl rfl
    · cases h
  | pop =>
    simp only [ax_s1] at h
    split at h
    · obtain ⟨-, h⟩ := ax_bif h; cases h; exact Or.inl rfl
    · cases h
  | dup_x1 =>
    simp only [ax_s1] at h
    split at h
    · obtain ⟨-, h⟩ := ax_bif h; cases h; exact Or.inl rfl
    · cases h
  | dup2 =>
    simp only [ax_s1] at h
    split at h
    · obtain ⟨-, h⟩ := ax_bif h; cases h; exact Or.inl rfl
    · cases h
  | getfield _ =>
    simp only [ax_s1] at h
    split at h
    · split at h
      · split at h <;> cases h
        exact Or.inl rfl
      · cases h
    · cases h
  | putfield _ =>
    simp only [ax_s1] at h
    split at h
    · split at h
      · obtain ⟨-, h⟩ := ax_bif h
        split at h
        · cases h; exact Or.inl rfl
        · split at h <;> cases h
          exact Or.inl rfl
        · cases h; exact Or.inl rfl
        · cases h
      · cases h
    · cases h
  | iaload =>
    obtain ⟨i, a, r, ty, n, f, rfl, hr, hok, hin, rfl⟩ := ax_al_inv h; exact Or.inl rfl
  | baload =>
    obtain ⟨i, a, r, ty, n, f, rfl, hr, hok, hin, rfl⟩ := ax_al_inv h; exact Or.inl rfl
  | caload =>
    obtain ⟨i, a, r, ty, n, f, rfl, hr, hok, hin, rfl⟩ := ax_al_inv h; exact Or.inl rfl
  | iastore =>
    obtain ⟨x, i, a, r, ty, n, f, rfl, ha, he, hok, hin, rfl⟩ := ax_as_inv h; exact Or.inl rfl
  | bastore =>
    obtain ⟨x, i, a, r, ty, n, f, rfl, ha, he, hok, hin, rfl⟩ := ax_as_inv h; exact Or.inl rfl
  | castore =>
    obtain ⟨x, i, a, r, ty, n, f, rfl, ha, he, hok, hin, rfl⟩ := ax_as_inv h; exact Or.inl rfl
  | laload =>
    simp only [ax_s1] at h
    split at h
    · split at h
      · obtain ⟨-, h⟩ := ax_bif h; cases h; exact Or.inl rfl
      · cases h
    · cases h
  | lastore =>
    simp only [ax_s1] at h
    split at h
    · split at h
      · obtain ⟨-, h⟩ := ax_bif h; cases h; exact Or.inl rfl
      · cases h
    · cases h
  | arraylength =>
    simp only [ax_s1] at h
    split at h
    · split at h
      · obtain ⟨-, h⟩ := ax_bif h; cases h; exact Or.inl rfl
      · split at h <;> cases h
        exact Or.inl rfl
    · cases h
  | new _ =>
    obtain ⟨-, h⟩ := ax_bif h; cases h; exact Or.inr ⟨_, _, rfl⟩
  | newarray _ =>
    simp only [ax_s1] at h
    split at h
    · obtain ⟨-, h⟩ := ax_bif h
      split at h
      · cases h
      · split at h
        · split at h <;> cases h <;> exact Or.inr ⟨_, _, rfl⟩
        · cases h
    · cases h
  | invokestatic _ =>
    simp only [ax_s1] at h
    cases hb0 : Nat.beq r1 1 with
    | true =>
      rw [hb0] at h
      simp only [cond_true] at h
      split at h
      · obtain ⟨-, h⟩ := ax_bif h; cases h; exact Or.inl rfl
      · cases h
    | false =>
      rw [hb0] at h
      simp only [cond_false] at h
      cases hb1 : Nat.beq r1 2 with
      | true =>
        rw [hb1] at h
        simp only [cond_true] at h
        split at h
        · obtain ⟨-, h⟩ := ax_bif h; cases h; exact Or.inl rfl
        · cases h
      | false =>
        rw [hb1] at h
        simp only [cond_false] at h
        cases hb2 : Nat.beq r1 3 with
        | true =>
          rw [hb2] at h
          simp only [cond_true] at h
          split at h
          · obtain ⟨-, h⟩ := ax_bif h; cases h; exact Or.inl rfl
          · cases h
        | false => rw [hb2] at h; cases h
  | _ => exact absurd h (by intro z; cases z)
def ax_le (H H' : ax_H) : Prop := H.2.1.1 ≤ H'.2.1.1 ∧ H.2.1.2 ≤ H'.2.1.2
theorem ax_le_rf (H : ax_H) : ax_le H H := ⟨Nat.le_refl _, Nat.le_refl _⟩
theorem ax_le_tr {a b c : ax_H} (h1 : ax_le a b) (h2 : ax_le b c) : ax_le a c := ⟨Nat.le_trans h1.1 h2.1, Nat.le_trans h1.2 h2.2⟩
theorem ax_s1_le {i : ax_I} {L : ax_L} {S : List Value} {H : ax_H} {q : ax_S} (h : ax_s1 i L S H = some q) : ax_le H q.2.2.2 := by
  obtain ⟨pc, ins, len, r1, r2, r3⟩ := i
  rcases ax_s1_H h with h1 | ⟨e, n, h1⟩
  · unfold ax_le; rw [h1]; exact ⟨Nat.le_refl _, Nat.le_refl _⟩
  · rw [h1]; exact ⟨Nat.le_add_right _ _, Nat.le_add_right _ _⟩
def ax_up (E : ax_F) : Prop := ∀ j pc L S H r, E j pc L S H = some r → ax_le H r.1
theorem ax_cpy_le {H H' : ax_H} {a b : Nat} {sp dp n : Int32} (h : ax_cpy H a b sp dp n = some H') : ax_le H H' := by
  unfold ax_cpy at h
  cases hb : (Nat.ble 1000000 a || Nat.ble 1000000 b) with
  | true => rw [hb] at h; cases h
  | false =>
    rw [hb] at h
    simp only [cond_false] at h
    split at h
    · split at h <;> cases h
      exact ⟨Nat.le_refl _, Nat.le_refl _⟩
    · cases h
theorem ax_wrap_le {r : Option ax_R} {o : Nat} {H H' : ax_H} {k : Int32} (hr : ∀ r', r = some r' → ax_le H r'.1) (h : ax_wrap r o = some (H', k)) : ax_le H H' := by
  unfold ax_wrap at h
  split at h
  · have h1 := hr _ rfl
    split at h
    · split at h
      · split at h <;> cases h <;> exact h1
      · cases h
    · cases h
  · have h1 := hr _ rfl
    cases h; exact h1
  · cases h
theorem ax_call_le {E : ax_F} (hE : ax_up E) {i : ax_I} {L : ax_L} {S : List Value} {H : ax_H} {q : ax_S} (h : ax_call E i L S H = some q) : ax_le H q.2.2.2 := by
  obtain ⟨pc, ins, len, r1, r2, r3⟩ := i
  cases ins with
  | invokespecial _ =>
    simp only [ax_call] at h
    cases hb : Nat.beq r1 999 with
    | true =>
      rw [hb] at h
      simp only [cond_true] at h
      split at h
      · obtain ⟨-, h⟩ := ax_bif h; cases h; exact ax_le_rf H
      · cases h
    | false =>
      rw [hb] at h
      simp only [cond_false] at h
      split at h
      · obtain ⟨-, h⟩ := ax_bif h
        split at h
        · rename_i he
          obtain ⟨-, h⟩ := ax_bif h; cases h; exact hE _ _ _ _ _ _ he
        · cases h
      · cases h
  | invokevirtual _ =>
    simp only [ax_call] at h
    split at h
    · obtain ⟨-, h⟩ := ax_bif h
      split at h
      · rename_i he
        obtain ⟨-, h⟩ := ax_bif h; cases h; exact hE _ _ _ _ _ _ he
      · cases h
    · cases h
  | invokestatic _ =>
    simp only [ax_call] at h
    cases hb : Nat.beq r1 998 with
    | true =>
      rw [hb] at h
      simp only [cond_true] at h
      split at h
      · obtain ⟨-, h⟩ := ax_bif h
        split at h
        · rename_i he
          cases h; exact ax_cpy_le he
        · cases h
      · cases h
    | false =>
      rw [hb] at h
      simp only [cond_false] at h
      cases hbrge : Nat.beq r1 4 with
      | true =>
        rw [hbrge] at h
        simp only [cond_true] at h
        split at h
        · obtain ⟨-, h⟩ := ax_bif h
          split at h
          · rename_i he
            obtain ⟨-, h⟩ := ax_bif h; cases h; exact ax_wrap_le (fun r' hr => hE _ _ _ _ _ _ hr) he
          · cases h
        · cases h
      | false =>
        rw [hbrge] at h
        simp only [cond_false] at h
        cases hbger : Nat.beq r1 5 with
        | true =>
          rw [hbger] at h
          simp only [cond_true] at h
          split at h
          · obtain ⟨-, h⟩ := ax_bif h
            split at h
            · rename_i he
              obtain ⟨-, h⟩ := ax_bif h; cases h; exact ax_wrap_le (fun r' hr => hE _ _ _ _ _ _ hr) he
            · cases h
          · cases h
        | false =>
          rw [hbger] at h
          simp only [cond_false] at h
          cases hbrow : Nat.beq r1 6 with
          | true =>
            rw [hbrow] at h
            simp only [cond_true] at h
            split at h
            · obtain ⟨-, h⟩ := ax_bif h
              split at h
              · rename_i he
                obtain ⟨-, h⟩ := ax_bif h; cases h; exact ax_wrap_le (fun r' hr => hE _ _ _ _ _ _ hr) he
              · cases h
            · cases h
          | false =>
            rw [hbrow] at h
            simp only [cond_false] at h
            cases hbm : (Nat.ble 1 r1 && Nat.ble r1 3) with
            | true => rw [hbm] at h; cases h
            | false =>
            rw [hbm] at h
            simp only [cond_false] at h
            split at h
            · obtain ⟨-, h⟩ := ax_bif h
              split at h
              · rename_i he
                obtain ⟨-, h⟩ := ax_bif h; cases h; exact hE _ _ _ _ _ _ he
              · cases h
            · cases h
  | _ => exact absurd h (by intro z; cases z)
theorem ax_nx_le {E : ax_F} (hE : ax_up E) {i : ax_I} {L : ax_L} {S : List Value} {H : ax_H} {q : ax_S} (h : ax_nx E i L S H = some q) : ax_le H q.2.2.2 := by
  unfold ax_nx at h
  split at h
  · rename_i hs
    cases h; exact ax_s1_le hs
  · exact ax_call_le hE h
theorem ax_next_le {E : ax_F} (hE : ax_up E) {j pc : Nat} {L : ax_L} {S : List Value} {H : ax_H} {q : ax_S} (h : ax_next E j pc L S H = some q) : ax_le H q.2.2.2 := by
  unfold ax_next at h
  split at h
  · split at h
    · rename_i hs
      have h9 := ax_nx_le hE hs
      cases h; exact h9
    · cases h
  · cases h
theorem ax_end_le {j pc : Nat} {S : List Value} {H : ax_H} {r : ax_R} (h : ax_end j pc S H = some r) : ax_le H r.1 := by
  unfold ax_end at h
  split at h
  · rename_i i hi
    obtain ⟨pc', ins, len, r1, r2, r3⟩ := i
    unfold ax_fin at h
    simp only at h
    split at h
    · split at h
      · cases h; exact ax_le_rf H
      · split at h <;> cases h
        exact ax_le_rf H
      · cases h
    · split at h <;> cases h
      exact ax_le_rf H
    · split at h <;> cases h
      exact ax_le_rf H
    · split at h <;> cases h
      exact ax_le_rf H
    · obtain ⟨-, h⟩ := ax_bif h
      split at h <;> cases h
      exact ⟨Nat.le_add_right _ _, Nat.le_add_right _ _⟩
    · cases h
  · cases h
theorem ax_it_le {E : ax_F} (hE : ax_up E) : ∀ (n j pc : Nat) (L : ax_L) (S : List Value) (H : ax_H) (r : ax_R), ax_it E n j pc L S H = some r → ax_le H r.1
  | 0, _, _, _, _, _, _, h => by cases h
  | n + 1, j, pc, L, S, H, r, h => by
    simp only [ax_it] at h
    cases h1 : ax_end j pc S H with
    | some r1 => rw [h1] at h; cases h; exact ax_end_le h1
    | none =>
      rw [h1] at h
      cases h2 : ax_next E j pc L S H with
      | none => rw [h2] at h; cases h
      | some q =>
        rw [h2] at h
        exact ax_le_tr (ax_next_le hE h2) (ax_it_le hE n j q.1 q.2.1 q.2.2.1 q.2.2.2 r h)
theorem ev_le : ∀ d : Nat, ax_up (ev d)
  | 0 => fun _ _ _ _ _ _ h => by cases h
  | d + 1 => fun j pc L S H r h => by
    obtain ⟨n, hn⟩ := ev_it h
    exact ax_it_le (ev_le d) n j pc L S H r hn
