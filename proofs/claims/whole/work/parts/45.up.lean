/-! Deeper calls say the same; running what is known by computing -/
def ax_sub (E E' : ax_F) : Prop := ∀ (j pc : Nat) (L : ax_L) (S : List Value) (H : ax_H) (r : ax_R), E j pc L S H = some r → E' j pc L S H = some r
theorem ax_wrap_sub {o o' : Option ax_R} {a : Nat} {q : ax_H × Int32} (h : ∀ r, o = some r → o' = some r) (hq : ax_wrap o a = some q) : ax_wrap o' a = some q := by
  cases o with
  | none => cases hq
  | some r => rw [h r rfl]; exact hq
theorem ax_call_sub {E E' : ax_F} (h : ax_sub E E') {i : ax_I} {L : ax_L} {S : List Value} {H : ax_H} {q : ax_S} (hq : ax_call E i L S H = some q) : ax_call E' i L S H = some q := by
  obtain ⟨pc, ins, len, r1, r2, r3⟩ := i
  cases ins with
  | invokespecial k =>
    simp only [ax_call] at hq ⊢
    cases hb : Nat.beq r1 999 with
    | true => rw [hb] at hq; exact hq
    | false =>
      rw [hb] at hq
      simp only [cond_false] at hq ⊢
      cases hp : ax_pop (r2 % 100) [] S with
      | none => rw [hp] at hq; cases hq
      | some t =>
        rw [hp] at hq
        obtain ⟨as, r⟩ := t
        cases r with
        | nil => cases hq
        | cons v r =>
          cases v with
          | ref a =>
            simp only at hq ⊢
            obtain ⟨hw, hq⟩ := ax_bif hq
            rw [hw, cond_true]
            cases ho : E r1 0 (ax_arg 0 (.ref a :: as)) [] H with
            | none => rw [ho] at hq; cases hq
            | some t => rw [h _ _ _ _ _ _ ho]; rw [ho] at hq; exact hq
          | _ => cases hq
  | invokevirtual k =>
    simp only [ax_call] at hq ⊢
    cases hp : ax_pop (r2 % 100) [] S with
    | none => rw [hp] at hq; cases hq
    | some t =>
      rw [hp] at hq
      obtain ⟨as, r⟩ := t
      cases r with
      | nil => cases hq
      | cons v r =>
        cases v with
        | ref a =>
          simp only at hq ⊢
          obtain ⟨hw, hq⟩ := ax_bif hq
          rw [hw, cond_true]
          cases ho : E r1 0 (ax_arg 0 (.ref a :: as)) [] H with
          | none => rw [ho] at hq; cases hq
          | some t => rw [h _ _ _ _ _ _ ho]; rw [ho] at hq; exact hq
        | _ => cases hq
  | invokestatic k =>
    have hwr : ∀ {a : Nat} {vs : List Value} {o : Nat} {j : Nat} {t : ax_H × Int32}, ax_wrap (E j 0 (ax_arg 0 vs) [] H) o = some t → ax_wrap (E' j 0 (ax_arg 0 vs) [] H) o = some t := fun {a vs o j t} hz => ax_wrap_sub (fun r hr => h _ _ _ _ _ _ hr) hz
    simp only [ax_call] at hq ⊢
    cases hb : Nat.beq r1 998 with
    | true => rw [hb] at hq; exact hq
    | false =>
    rw [hb] at hq
    simp only [cond_false] at hq ⊢
    cases hb1 : Nat.beq r1 4 with
    | true =>
      rw [hb1] at hq
      simp only [cond_true] at hq ⊢
      split at hq
      · obtain ⟨hw, hq⟩ := ax_bif hq
        simp only [hw, cond_true]
        split at hq
        · rename_i hz
          rw [hwr (a := 0) hz]; exact hq
        · cases hq
      · cases hq
    | false =>
    rw [hb1] at hq
    simp only [cond_false] at hq ⊢
    cases hb2 : Nat.beq r1 5 with
    | true =>
      rw [hb2] at hq
      simp only [cond_true] at hq ⊢
      split at hq
      · obtain ⟨hw, hq⟩ := ax_bif hq
        simp only [hw, cond_true]
        split at hq
        · rename_i hz
          rw [hwr (a := 0) hz]; exact hq
        · cases hq
      · cases hq
    | false =>
    rw [hb2] at hq
    simp only [cond_false] at hq ⊢
    cases hb3 : Nat.beq r1 6 with
    | true =>
      rw [hb3] at hq
      simp only [cond_true] at hq ⊢
      split at hq
      · obtain ⟨hw, hq⟩ := ax_bif hq
        simp only [hw, cond_true]
        split at hq
        · rename_i hz
          rw [hwr (a := 0) hz]; exact hq
        · cases hq
      · cases hq
    | false =>
    rw [hb3] at hq
    simp only [cond_false] at hq ⊢
    cases hb4 : (Nat.ble 1 r1 && Nat.ble r1 3) with
    | true => rw [hb4] at hq; cases hq
    | false =>
    rw [hb4] at hq
    simp only [cond_false] at hq ⊢
    cases hp : ax_pop (r2 % 100) [] S with
    | none => rw [hp] at hq; cases hq
    | some t =>
      rw [hp] at hq
      obtain ⟨as, r⟩ := t
      simp only at hq ⊢
      obtain ⟨hw, hq⟩ := ax_bif hq
      rw [hw, cond_true]
      cases ho : E r1 0 (ax_arg 0 as) [] H with
      | none => rw [ho] at hq; cases hq
      | some t => rw [h _ _ _ _ _ _ ho]; rw [ho] at hq; exact hq
  | _ => cases hq
theorem ax_next_sub {E E' : ax_F} (h : ax_sub E E') {j pc : Nat} {L : ax_L} {S : List Value} {H : ax_H} {q : ax_S} (hq : ax_next E j pc L S H = some q) : ax_next E' j pc L S H = some q := by
  unfold ax_next at hq ⊢
  cases ha : ax_at j pc with
  | none => rw [ha] at hq; cases hq
  | some i =>
    rw [ha] at hq
    simp only at hq ⊢
    have key : ∀ z, ax_nx E i L S H = some z → ax_nx E' i L S H = some z := by
      intro z hz
      unfold ax_nx at hz ⊢
      cases h1 : ax_s1 i L S H with
      | some t => rw [h1] at hz; exact hz
      | none => rw [h1] at hz; exact ax_call_sub h hz
    cases hn : ax_nx E i L S H with
    | none => rw [hn] at hq; cases hq
    | some z => rw [key z hn]; rw [hn] at hq; exact hq
theorem ax_it_sub {E E' : ax_F} (h : ax_sub E E') : ∀ n : Nat, ax_sub (ax_it E n) (ax_it E' n)
  | 0 => fun j pc L S H r hr => by cases hr
  | n + 1 => fun j pc L S H r hr => by
    simp only [ax_it] at hr ⊢
    cases h1 : ax_end j pc S H with
    | some t => rw [h1] at hr; exact hr
    | none =>
      rw [h1] at hr
      simp only at hr ⊢
      cases h2 : ax_next E j pc L S H with
      | none => rw [h2] at hr; cases hr
      | some q => rw [ax_next_sub h h2]; rw [h2] at hr; exact ax_it_sub h n _ _ _ _ _ _ hr
theorem ev_up1 : ∀ d : Nat, ax_sub (ev d) (ev (d + 1))
  | 0 => fun j pc L S H r hr => by cases hr
  | d + 1 => fun j pc L S H r hr => by
    obtain ⟨n, hn⟩ := ev_it hr
    exact ev_of (ax_it_sub (ev_up1 d) n _ _ _ _ _ _ hn)
theorem ev_up {d d' : Nat} (h : d ≤ d') : ax_sub (ev d) (ev d') := by
  obtain ⟨k, rfl⟩ := Nat.exists_eq_add_of_le h
  induction k with
  | zero => exact fun _ _ _ _ _ _ h => h
  | succ k ih => exact fun j pc L S H r hr => ev_up1 _ _ _ _ _ _ _ (ih (Nat.le_add_right _ _) j pc L S H r hr)
/-- with so many steps -/
def evc : Nat → Nat → ax_F
  | 0, _ => fun _ _ _ _ _ => none
  | d + 1, n => fun j pc L S H => ax_it (evc d n) n j pc L S H
theorem evc_ev {n : Nat} : ∀ d : Nat, ax_sub (evc d n) (ev d)
  | 0 => fun j pc L S H r hr => by cases hr
  | d + 1 => fun j pc L S H r hr => ev_of (ax_it_sub (evc_ev d) n _ _ _ _ _ _ hr)
/-- n steps of a method, none of them an end -/
def ax_go (E : ax_F) (j : Nat) : Nat → ax_S → Option ax_S
  | 0, q => some q
  | n + 1, q => match ax_end j q.1 q.2.2.1 q.2.2.2 with
    | some _ => none
    | none => match ax_next E j q.1 q.2.1 q.2.2.1 q.2.2.2 with
      | some q' => ax_go E j n q'
      | none => none
theorem ax_go_ev {d n k j : Nat} : ∀ (m : Nat) (q q' : ax_S), ax_go (evc d n) j m q = some q' → d ≤ k → ev (k + 1) j q.1 q.2.1 q.2.2.1 q.2.2.2 = ev (k + 1) j q'.1 q'.2.1 q'.2.2.1 q'.2.2.2
  | 0, q, q', h, _ => by cases h; rfl
  | m + 1, q, q', h, hk => by
    unfold ax_go at h
    split at h
    · cases h
    · rename_i he
      split at h
      · rename_i q2 hq2
        rw [ev_eq, he, ax_next_sub (fun j pc L S H r hr => ev_up hk _ _ _ _ _ _ (evc_ev d _ _ _ _ _ _ hr)) hq2]
        exact ax_go_ev m q2 q' h hk
      · cases h
